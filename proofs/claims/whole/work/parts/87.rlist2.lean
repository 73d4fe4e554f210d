/-! The reference's list of nets. -/
/-- all places that t doesn't name are as they were -/
def zFr (t : Nat → Nat → Bool) (g g' : zIJ) : Prop := ∀ k j, t k j = false → g'.1 k j = g.1 k j ∧ g'.2 k j = g.2 k j
theorem fr_refl (t : Nat → Nat → Bool) (g : zIJ) : zFr t g g := fun _ _ _ => ⟨rfl, rfl⟩
theorem fr_tr {t : Nat → Nat → Bool} {g g' g'' : zIJ} (h : zFr t g g') (k : zFr t g' g'') : zFr t g g'' := fun a b q => ⟨(k a b q).1.trans (h a b q).1, (k a b q).2.trans (h a b q).2⟩
theorem fr_le {t u : Nat → Nat → Bool} {g g' : zIJ} (h : zFr t g g') (k : ∀ a b, u a b = false → t a b = false) : zFr u g g' := fun a b q => h a b (k a b q)
theorem fr_I {t : Nat → Nat → Bool} (g : zIJ) {k j : Nat} (x : Int32) (h : t k j = true) : zFr t g (zsI g k j x) := by
  intro a b q
  refine ⟨?_, rfl⟩
  rw [zI_at]
  split
  · rename_i e
    rw [e.1, e.2, h] at q; cases q
  · rfl
theorem fr_L {t : Nat → Nat → Bool} (g : zIJ) {k j : Nat} (x : Int64) (h : t k j = true) : zFr t g (zsL g k j x) := by
  intro a b q
  refine ⟨rfl, ?_⟩
  rw [zL_at]
  split
  · rename_i e
    rw [e.1, e.2, h] at q; cases q
  · rfl
/-- what listing touches -/
def tLi (k j : Nat) : Bool := Nat.beq k 296 || (Nat.beq k 297 || (Nat.beq k 250 && (Nat.beq j 10 || (Nat.beq j 11 || (Nat.beq j 12 || (Nat.beq j 14 || Nat.beq j 15))))))
theorem push_fr (g : zIJ) (N x : Nat) : zFr tLi g (push g N x) := fr_tr (fr_L g (lN x) rfl) (fr_I _ _ rfl)
theorem pushs_fr : ∀ (l : List Nat) (g : zIJ) (N : Nat), zFr tLi g (pushs g N l)
  | [], g, _ => fr_refl _ g
  | x :: xs, g, N => fr_tr (push_fr g N x) (pushs_fr xs _ _)
theorem pushs_lo : ∀ (l : List Nat) (g : zIJ) (N i : Nat), i < N → (pushs g N l).2 297 i = g.2 297 i
  | [], g, N, i, _ => rfl
  | x :: xs, g, N, i, h => by
    show (pushs (push g N x) (N + 1) xs).2 297 i = _
    rw [pushs_lo xs _ _ i (by omega)]
    show (zsL g 297 N (lN x)).2 297 i = _
    exact zL_col (k := 297) (j := N) (b := i) g (lN x) (by omega)
theorem pushs_at : ∀ (l : List Nat) (g : zIJ) (N i : Nat) (h : i < l.length), (pushs g N l).2 297 (N + i) = lN l[i]
  | [], g, N, i, h => by simp at h
  | x :: xs, g, N, 0, h => by
    show (pushs (push g N x) (N + 1) xs).2 297 (N + 0) = lN x
    rw [pushs_lo xs _ _ _ (by omega)]
    show (zsL g 297 N (lN x)).2 297 N = _
    exact zL_same g 297 N (lN x)
  | x :: xs, g, N, i + 1, h => by
    show (pushs (push g N x) (N + 1) xs).2 297 (N + (i + 1)) = _
    rw [show N + (i + 1) = N + 1 + i from by omega]
    exact pushs_at xs _ _ i (by simpa using h)
/-- the list stands there -/
def RLd (g : zIJ) (L : List Nat) : Prop := g.1 250 14 = nI L.length ∧ ∀ i (h : i < L.length), g.2 297 i = lN L[i]
/-- the edges with mark v -/
def mM (s : Nat → Int32) (v : Int32) : Nat := mkM (fun e => decide (s (20 + e) = v)) 36
def MksOK (s : Nat → Int32) (n : Nat) : Prop := ∀ e, e < 36 → (s (20 + e) = 0 ∨ s (20 + e) = 1 ∨ s (20 + e) = 2) ∧ (n ≤ eHi e → s (20 + e) = 0)
theorem mM_at {s : Nat → Int32} {v : Int32} {e : Nat} (he : e < 36) : (mM s v).testBit e = decide (s (20 + e) = v) := by
  unfold mM
  rw [mkM_at, decide_eq_true he]; rfl
theorem mM_lt (s : Nat → Int32) (v : Int32) : mM s v < 2 ^ 36 := mkM_lt _ _
theorem mM_can {s : Nat → Int32} {n : Nat} (h : MksOK s n) {v : Int32} (hv : v ≠ 0) : ∀ k, (mM s v).testBit k = true → (canM n).testBit k = true := by
  intro k hk
  have k36 : k < 36 := by
    apply Classical.byContradiction
    intro q
    rw [Nat.testBit_lt_two_pow (Nat.lt_of_lt_of_le (mM_lt s v) (Nat.pow_le_pow_right (by omega) (by omega)))] at hk; cases hk
  rw [mM_at k36] at hk
  have hk := of_decide_eq_true hk
  rw [can_at k36]
  refine decide_eq_true ?_
  apply Classical.byContradiction
  intro q
  exact hv (hk.symm.trans ((h k k36).2 (by omega)))
noncomputable def netsOf (X Y : Nat → Int) (n : Nat) (s : Nat → Int32) : List Nat := cond (Nat.blt n 3) [] (netL X Y n (mM s 1) (mM s 2))
theorem netsOf_len {X Y : Nat → Int} {n : Nat} {s : Nat → Int32} (h : GP X Y n) (hd : Dist X Y n) (hn : n ≤ 9) (hm : MksOK s n) : (netsOf X Y n s).length ≤ 800 := by
  unfold netsOf
  by_cases q : n < 3
  · rw [nblt_t q]; exact Nat.zero_le _
  · rw [nblt_f q]
    exact netL_len h hd (by omega) hn (mM_can hm (by decide))
/-- the three sets as they are written -/
def wr3 (g : zIJ) (c m b : Nat) : zIJ := zsL (zsL (zsL g 250 10 (lN c)) 250 11 (lN m)) 250 12 (lN b)
theorem wr3_10 (g : zIJ) (c m b : Nat) : (wr3 g c m b).2 250 10 = lN c := by
  unfold wr3
  rw [zL_col _ _ (by decide : (10 : Nat) ≠ 12), zL_col _ _ (by decide : (10 : Nat) ≠ 11), zL_same]
theorem wr3_11 (g : zIJ) (c m b : Nat) : (wr3 g c m b).2 250 11 = lN m := by
  unfold wr3
  rw [zL_col _ _ (by decide : (11 : Nat) ≠ 12), zL_same]
theorem wr3_12 (g : zIJ) (c m b : Nat) : (wr3 g c m b).2 250 12 = lN b := by
  unfold wr3
  rw [zL_same]
theorem wr3_wr (g : zIJ) (c m b c' m' b' : Nat) : zsL (zsL (zsL (wr3 g c m b) 250 10 (lN c')) 250 11 (lN m')) 250 12 (lN b') = wr3 g c' m' b' := by
  unfold wr3
  refine Prod.ext rfl ?_
  funext k j
  simp only [zL_at]
  by_cases e : k = 250
  · by_cases e1 : j = 12
    · simp [e, e1]
    by_cases e2 : j = 11
    · simp [e, e2]
    by_cases e3 : j = 10
    · simp [e, e3]
    simp [e, e1, e2, e3]
  · simp [e]
section
variable {g : zIJ} {n : Nat} {X Y : Nat → Int}
/-- one more edge -/
def up3 (s : Nat → Int32) (a b : Nat) (t : Nat × Nat × Nat) : Nat × Nat × Nat := (t.1 ||| 2 ^ eN a b, t.2.1 ||| cond (decide (s (20 + eN a b) = 1)) (2 ^ eN a b) 0, t.2.2 ||| cond (decide (s (20 + eN a b) = 2)) (2 ^ eN a b) 0)
theorem add20 {e : Nat} (he : e < 36) : (20 : Int32) + nI e = nI (20 + e) := nI_add 20 e
theorem r_ln60 (h : RB g n X Y) {a b : Nat} (ha : a < n) (hb : b < n) (nab : a ≠ b) (t : Nat × Nat × Nat) : zev mX12_listsNets 60 [.ref 250, .int (nI a), .int (nI b)] (wr3 g t.1 t.2.1 t.2.2) = zev mX12_listsNets 60 [.ref 250, .int (nI a), .int (nI (b + 1))] (wr3 g (up3 (g.1 251) a b t).1 (up3 (g.1 251) a b t).2.1 (up3 (g.1 251) a b t).2.2) := by
  have hn := h.1
  have h0 : RB (wr3 g t.1 t.2.1 t.2.2) n X Y := rb_of h rfl
  have e36 := eN_lt (i := a) (j := b) (by omega) (by omega) nab
  have ed : ∀ g, zev mX12_edge 0 [.int (nI a), .int (nI b)] g = some (some (.int (nI (eN a b))), g) := fun g => r_edge g (by omega) (by omega) nab
  rw [uX12_listsNets_60, r_points h0, zaI_some, nle_d hn hb]
  simp only [ed, zaI_some, add20 e36, zin_n (by omega : 20 + eN a b < 72) (by omega), nI_clamp (by omega : 20 + eN a b < 2 ^ 31), bit_l (by omega : eN a b < 63), nI_1, wr3_10]
  have r11 : ∀ x, (zsL (wr3 g t.1 t.2.1 t.2.2) 250 10 x).2 250 11 = lN t.2.1 := fun x => by rw [zL_col _ _ (by decide : (11 : Nat) ≠ 10)]; exact wr3_11 _ _ _ _
  have r12 : ∀ x y, (zsL (zsL (wr3 g t.1 t.2.1 t.2.2) 250 10 x) 250 11 y).2 250 12 = lN t.2.2 := fun x y => by rw [zL_col _ _ (by decide : (12 : Nat) ≠ 11), zL_col _ _ (by decide : (12 : Nat) ≠ 10)]; exact wr3_12 _ _ _ _
  simp only [r11, r12, lN_or, or0_l, zL_1]
  show cond false _ (cond true (cond (!decide (g.1 251 (20 + eN a b) = 1)) (cond true (cond (!decide (g.1 251 (20 + eN a b) = 2)) _ _) none) (cond true (cond (!decide (g.1 251 (20 + eN a b) = 2)) _ _) none)) none) = _
  unfold up3
  cases q1 : decide (g.1 251 (20 + eN a b) = 1) <;> cases q2 : decide (g.1 251 (20 + eN a b) = 2)
  · show zev mX12_listsNets 60 _ (zsL (zsL (zsL (wr3 g t.1 t.2.1 t.2.2) 250 10 _) 250 11 _) 250 12 _) = zev mX12_listsNets 60 _ (wr3 g _ (t.2.1 ||| 0) (t.2.2 ||| 0))
    rw [wr3_wr, or_zero, or_zero]
  · show zev mX12_listsNets 60 _ (zsL (zsL (zsL (wr3 g t.1 t.2.1 t.2.2) 250 10 _) 250 11 _) 250 12 _) = zev mX12_listsNets 60 _ (wr3 g _ (t.2.1 ||| 0) _)
    rw [wr3_wr, or_zero]
    rfl
  · show zev mX12_listsNets 60 _ (zsL (zsL (zsL (wr3 g t.1 t.2.1 t.2.2) 250 10 _) 250 11 _) 250 12 _) = zev mX12_listsNets 60 _ (wr3 g _ _ (t.2.2 ||| 0))
    rw [wr3_wr, or_zero]
    rfl
  · show zev mX12_listsNets 60 _ (zsL (zsL (zsL (wr3 g t.1 t.2.1 t.2.2) 250 10 _) 250 11 _) 250 12 _) = _
    rw [wr3_wr]
    rfl
end
