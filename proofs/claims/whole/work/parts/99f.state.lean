/-! The state that class and reference share; what each holds of it. -/
def zS : Type := (Nat → Int32) × (Nat → Nat → Int32) × (Nat × Nat) × Int32 × (Nat → Int32) × (Nat × (Nat → Nat → Int32)) × ((Nat → Int32) × (Nat → Nat) × (Nat → Nat → Int64))
def zmk (s : Nat → Int32) (kp : Nat → Nat → Int32) (fi un : Nat) (z : Int32) (fd : Nat → Int32) (rm : Nat) (row : Nat → Nat → Int32) (so : Nat → Int32) (si : Nat → Nat) (ce : Nat → Nat → Int64) : zS := (s, kp, (fi, un), z, fd, (rm, row), (so, si, ce))
def zS.s (σ : zS) : Nat → Int32 := σ.1
def zS.kp (σ : zS) : Nat → Nat → Int32 := σ.2.1
def zS.fi (σ : zS) : Nat := σ.2.2.1.1
def zS.un (σ : zS) : Nat := σ.2.2.1.2
def zS.z (σ : zS) : Int32 := σ.2.2.2.1
def zS.fd (σ : zS) : Nat → Int32 := σ.2.2.2.2.1
def zS.rm (σ : zS) : Nat := σ.2.2.2.2.2.1.1
def zS.row (σ : zS) : Nat → Nat → Int32 := σ.2.2.2.2.2.1.2
def zS.so (σ : zS) : Nat → Int32 := σ.2.2.2.2.2.2.1
def zS.si (σ : zS) : Nat → Nat := σ.2.2.2.2.2.2.2.1
def zS.ce (σ : zS) : Nat → Nat → Int64 := σ.2.2.2.2.2.2.2.2
def nS (s : Nat → Int32) : Nat := (s 0).toNatClampNeg
def XS (s : Nat → Int32) (i : Nat) : Int := if i < nS s then (s (2 + 2 * i)).toInt else 0
def YS (s : Nat → Int32) (i : Nat) : Int := if i < nS s then (s (3 + 2 * i)).toInt else 0
/-- a board that can stand -/
def Wf (s : Nat → Int32) : Prop := s 0 = nI (nS s) ∧ Pts (XS s) (YS s) (nS s) ∧ MksOK s (nS s) ∧ (∀ e f, e < 36 → f < 36 → s (20 + e) = 1 → s (20 + f) = 1 → crs (oXY (XS s) (YS s)) (eLo e) (eHi e) (eLo f) (eHi f) = false) ∧ ∃ m, m ≤ 8 ∧ s 1 = nI m
/-- the class's board at o -/
def CBo (g : zIJ) (o : Nat) (s : Nat → Int32) : Prop := g.1 o 4 = s 0 ∧ g.1 o 5 = s 1 ∧ (∀ i, i < 9 → g.1 (o + 1) i = s (2 + 2 * i) ∧ g.1 (o + 2) i = s (3 + 2 * i)) ∧ (∀ i, i < 8 → g.1 (o + 3) i = s (56 + 2 * i) ∧ g.1 (o + 4) i = s (57 + 2 * i)) ∧ g.2 o 6 = lN (mM s 1) ∧ g.2 o 7 = lN (mM s 2)
/-- the reference's board at r -/
def RBo (g : zIJ) (r : Nat) (s : Nat → Int32) : Prop := ∀ k, k < 72 → g.1 r k = s k
def Wfs (σ : zS) : Prop := Wf σ.s ∧ (∀ i, i < 40 → Wf (σ.kp i)) ∧ σ.fi < 40 ∧ σ.un ≤ 40 ∧ σ.rm ≤ 13 ∧ ∀ q, q < 4 → σ.si q ≤ 40 ∧ (σ.so q = -1 ∨ σ.so q = 0 ∨ σ.so q = 1 ∨ σ.so q = 2)
def CI0 (g : zIJ) (σ : zS) : Prop := CBo g 4 σ.s ∧ (∀ i, i < 40 → CBo g (11 + 5 * i) (σ.kp i)) ∧ (g.1 9 1 = nI ((σ.fi + σ.un) % 40) ∧ g.1 9 2 = nI σ.un) ∧ g.1 3 12 = σ.z ∧ (∀ k, k < 8 → g.1 241 k = σ.fd k) ∧ (g.1 237 2 = nI σ.rm ∧ ∀ i, i < σ.rm → g.1 238 i = σ.row i 0 ∧ g.1 239 i = σ.row i 1) ∧ ∀ q, q < 4 → g.1 (242 + 2 * q) 1 = σ.so q ∧ g.1 (242 + 2 * q) 2 = nI (σ.si q) ∧ ∀ i, i < 40 → g.2 (243 + 2 * q) i = σ.ce q i
def RI0 (g : zIJ) (σ : zS) : Prop := RBo g 251 σ.s ∧ (∀ i, i < 40 → RBo g (253 + i) (σ.kp i)) ∧ (g.1 250 2 = nI σ.fi ∧ g.1 250 3 = nI σ.un) ∧ g.1 250 4 = σ.z ∧ (∀ k, k < 8 → g.1 293 k = σ.fd k) ∧ (g.1 250 24 = nI σ.rm ∧ ∀ i, i < σ.rm → g.1 (302 + i) 0 = σ.row i 0 ∧ g.1 (302 + i) 1 = σ.row i 1) ∧ ∀ q, q < 4 → g.1 342 q = σ.so q ∧ g.1 343 q = nI (σ.si q) ∧ ∀ i, i < 40 → g.2 (345 + q) i = σ.ce q i
noncomputable def nsL (s : Nat → Int32) : List Nat := netsOf (XS s) (YS s) (nS s) s
def RI (g : zIJ) (σ : zS) : Prop := RI0 g σ ∧ (g.1 250 15 = 0 ∨ (g.1 250 15 = 1 ∧ RLd g (nsL σ.s)))
/-! sweeps -/
def NxP (X Y : Nat → Int) (n P a b : Nat) : Prop := b < n ∧ P.testBit b = true ∧ ahd X Y a b ∧ ∀ d, d < n → P.testBit d = true → ahd X Y a d → d ≠ b → ahd X Y b d
def Tri (X Y : Nat → Int) (n w a b c : Nat) : Prop := w.testBit (eN a b) = true ∧ w.testBit (eN a c) = true ∧ w.testBit (eN b c) = true ∧ ∀ p, p < n → wit (oXY X Y) p a b c = false
def InP (X Y : Nat → Int) (n w a b c : Nat) : Prop := c < n ∧ ahd X Y a c ∧ ahd X Y c b ∧ oXY X Y a b c = true ∧ Tri X Y n w a b c
def AdvA (X Y : Nat → Int) (n w P a : Nat) (r : Nat × Nat × Nat) : Prop := ∃ b, NxP X Y n P a b ∧ ((∃ c, InP X Y n w a b c ∧ r = (P ^^^ 2 ^ c, 2 ^ a ||| 2 ^ b ||| 2 ^ c, 0)) ∨ ((∀ c, ¬ InP X Y n w a b c) ∧ ∃ d, NxP X Y n P b d ∧ oXY X Y a b d = true ∧ Tri X Y n w a b d ∧ r = (P ^^^ 2 ^ b, 2 ^ a ||| 2 ^ b ||| 2 ^ d, 1)))
def Adv (X Y : Nat → Int) (n w P : Nat) (r : Nat × Nat × Nat) : Prop := ∃ a, a < n ∧ P.testBit a = true ∧ AdvA X Y n w P a r ∧ ∀ a', a' < n → P.testBit a' = true → ahd X Y a' a → ∀ r', ¬ AdvA X Y n w P a' r'
def Swp (X Y : Nat → Int) (n w : Nat) : Nat → List (Nat × Nat × Nat) → Prop
  | P, [] => ∀ r, ¬ Adv X Y n w P r
  | P, r :: R => Adv X Y n w P r ∧ Swp X Y n w r.1 R
/-- the lower path: the hull up to the last point -/
def LowP (X Y : Nat → Int) (n P : Nat) : Prop := ∃ m s k, Hul X Y n m s ∧ k < m ∧ Lst X Y n (s k) ∧ P = hMsk s (k + 1)
def SwOK (g : zIJ) (X Y : Nat → Int) (n w : Nat) : Prop := ∃ P R, LowP X Y n P ∧ Swp X Y n w P R ∧ R.length ≤ 13 ∧ g.1 226 3 = nI R.length ∧ g.1 227 0 = nI P ∧ ∀ i (h : i < R.length), g.1 227 (i + 1) = nI R[i].1 ∧ g.1 228 i = nI R[i].2.1 ∧ g.1 229 i = nI R[i].2.2
def SwI (g : zIJ) (n : Nat) (X Y : Nat → Int) (A : Int) : Prop := ∃ c : Int, g.1 226 5 = cI c ∧ -1 ≤ c ∧ c ≤ A ∧ (c = A → ∃ w, w < 2 ^ 36 ∧ g.2 226 4 = lN w ∧ SwOK g X Y n w)
def Cache (g : zIJ) (n : Nat) (X Y : Nat → Int) (t : Nat) : Prop := POK g n X Y ∧ NcI g n X Y ∧ ∃ A b : Int, g.1 211 10 = cI A ∧ 0 ≤ A ∧ A ≤ t ∧ g.1 219 3 = cI b ∧ -1 ≤ b ∧ b ≤ A ∧ SwI g n X Y A
def CI (g : zIJ) (σ : zS) (t : Nat) : Prop := CI0 g σ ∧ ∃ n X Y, Cache g n X Y t
/-- the plane is the board's -/
def CIp (g : zIJ) (σ : zS) (t : Nat) : Prop := CI0 g σ ∧ Cache g (nS σ.s) (XS σ.s) (YS σ.s) t
/-- the nets too -/
def CIn (g : zIJ) (σ : zS) (t : Nat) : Prop := CIp g σ t ∧ NLd g (nsL σ.s) ∧ g.1 219 3 = g.1 211 10 ∧ g.2 219 4 = lN (mM σ.s 1) ∧ g.2 219 5 = lN (mM σ.s 2)
/-! frames -/
def tC (k _j : Nat) : Bool := decide (3 ≤ k ∧ k ≤ 249)
def tR (k _j : Nat) : Bool := decide (250 ≤ k)
def tX (k _j : Nat) : Bool := decide (250 ≤ k ∨ (211 ≤ k ∧ k ≤ 236))
def tS (k j : Nat) : Bool := decide (k < 250 ∨ (k = 250 ∧ j ≠ 2 ∧ j ≠ 3 ∧ j ≠ 4 ∧ j ≠ 24) ∨ (294 ≤ k ∧ k ≤ 300) ∨ k = 349)
/-- what is outside the caches -/
def tNC (k _j : Nat) : Bool := decide (k < 211 ∨ 236 < k)
theorem fr_ud {t : Nat → Nat → Bool} {u : Nat → Nat → Prop} [∀ k j, Decidable (u k j)] {g g' : zIJ} (h : zFr t g g') (k : ∀ a b, t a b = true → u a b) : zFr (fun a b => decide (u a b)) g g' := fr_le h (fun a b q => by
  cases e : t a b with
  | false => rfl
  | true => exact absurd (k a b e) (of_decide_eq_false q))
theorem cbo_fr {g g' : zIJ} {o : Nat} {s : Nat → Int32} (h : CBo g o s) (f : ∀ k j, o ≤ k → k ≤ o + 4 → g'.1 k j = g.1 k j ∧ g'.2 k j = g.2 k j) : CBo g' o s := by
  obtain ⟨h1, h2, h3, h4, h5, h6⟩ := h
  refine ⟨?_, ?_, fun i hi => ⟨?_, ?_⟩, fun i hi => ⟨?_, ?_⟩, ?_, ?_⟩
  · rw [(f _ _ (by omega) (by omega)).1, h1]
  · rw [(f _ _ (by omega) (by omega)).1, h2]
  · rw [(f _ _ (by omega) (by omega)).1, (h3 i hi).1]
  · rw [(f _ _ (by omega) (by omega)).1, (h3 i hi).2]
  · rw [(f _ _ (by omega) (by omega)).1, (h4 i hi).1]
  · rw [(f _ _ (by omega) (by omega)).1, (h4 i hi).2]
  · rw [(f _ _ (by omega) (by omega)).2, h5]
  · rw [(f _ _ (by omega) (by omega)).2, h6]
theorem ci0_fr {g g' : zIJ} {σ : zS} (h : CI0 g σ) (f : zFr tX g g') : CI0 g' σ := by
  have f' : ∀ k j, (k < 211 ∨ (236 < k ∧ k < 250)) → g'.1 k j = g.1 k j ∧ g'.2 k j = g.2 k j := fun k j hk => f k j (decide_eq_false (by omega))
  obtain ⟨h1, h2, h3, h4, h5, h6, h7⟩ := h
  refine ⟨cbo_fr h1 (fun k j k1 k2 => f' k j (by omega)), fun i hi => cbo_fr (h2 i hi) (fun k j k1 k2 => f' k j (by omega)), ⟨?_, ?_⟩, ?_, fun k hk => ?_, ⟨?_, fun i hi => ⟨?_, ?_⟩⟩, fun q hq => ⟨?_, ?_, fun i hi => ?_⟩⟩
  · rw [(f' _ _ (by omega)).1, h3.1]
  · rw [(f' _ _ (by omega)).1, h3.2]
  · rw [(f' _ _ (by omega)).1, h4]
  · rw [(f' _ _ (by omega)).1, h5 k hk]
  · rw [(f' _ _ (by omega)).1, h6.1]
  · rw [(f' _ _ (by omega)).1, (h6.2 i hi).1]
  · rw [(f' _ _ (by omega)).1, (h6.2 i hi).2]
  · rw [(f' _ _ (by omega)).1, (h7 q hq).1]
  · rw [(f' _ _ (by omega)).1, (h7 q hq).2.1]
  · rw [(f' _ _ (by omega)).2, (h7 q hq).2.2 i hi]
theorem ri0_fr {g g' : zIJ} {σ : zS} (h : RI0 g σ) (hw : Wfs σ) (f : zFr tS g g') : RI0 g' σ := by
  have f' : ∀ k j, (k = 251 ∨ (253 ≤ k ∧ k ≤ 293) ∨ (301 ≤ k ∧ k ≤ 348) ∨ (k = 250 ∧ (j = 2 ∨ j = 3 ∨ j = 4 ∨ j = 24))) → g'.1 k j = g.1 k j ∧ g'.2 k j = g.2 k j := fun k j hk => f k j (decide_eq_false (by omega))
  obtain ⟨h1, h2, h3, h4, h5, h6, h7⟩ := h
  have r13 := hw.2.2.2.2.1
  refine ⟨fun k hk => ?_, fun i hi k hk => ?_, ⟨?_, ?_⟩, ?_, fun k hk => ?_, ⟨?_, fun i hi => ⟨?_, ?_⟩⟩, fun q hq => ⟨?_, ?_, fun i hi => ?_⟩⟩
  · rw [(f' _ _ (by omega)).1, h1 k hk]
  · rw [(f' _ _ (by omega)).1, h2 i hi k hk]
  · rw [(f' _ _ (by omega)).1, h3.1]
  · rw [(f' _ _ (by omega)).1, h3.2]
  · rw [(f' _ _ (by omega)).1, h4]
  · rw [(f' _ _ (by omega)).1, h5 k hk]
  · rw [(f' _ _ (by omega)).1, h6.1]
  · rw [(f' _ _ (by omega)).1, (h6.2 i hi).1]
  · rw [(f' _ _ (by omega)).1, (h6.2 i hi).2]
  · rw [(f' _ _ (by omega)).1, (h7 q hq).1]
  · rw [(f' _ _ (by omega)).1, (h7 q hq).2.1]
  · rw [(f' _ _ (by omega)).2, (h7 q hq).2.2 i hi]
theorem rld_fr {g g' : zIJ} {L : List Nat} (h : RLd g L) (e1 : g'.1 250 14 = g.1 250 14) (e2 : g'.2 297 = g.2 297) : RLd g' L := ⟨e1.trans h.1, fun i hi => by rw [e2]; exact h.2 i hi⟩
theorem ri_fr {g g' : zIJ} {σ : zS} (h : RI g σ) (hw : Wfs σ) (f : zFr tS g g') (e1 : g'.1 250 14 = g.1 250 14) (e2 : g'.1 250 15 = g.1 250 15) (e3 : g'.2 297 = g.2 297) : RI g' σ := by
  refine ⟨ri0_fr h.1 hw f, ?_⟩
  rw [e2]
  rcases h.2 with q | ⟨q, l⟩
  · exact Or.inl q
  · exact Or.inr ⟨q, rld_fr l e1 e3⟩
theorem ri_cls {g g' : zIJ} {σ : zS} (h : RI g σ) (hw : Wfs σ) (f : zFr tC g g') : RI g' σ := by
  have f' : ∀ k j, 250 ≤ k → g'.1 k j = g.1 k j ∧ g'.2 k j = g.2 k j := fun k j hk => f k j (decide_eq_false (by omega))
  refine ri_fr h hw (fr_ud f (fun a b q => ?_)) (f' _ _ (by omega)).1 (f' _ _ (by omega)).1 (funext fun j => (f' _ _ (by omega)).2)
  have := of_decide_eq_true q
  omega
theorem ncI_fr {g g' : zIJ} {n : Nat} {X Y : Nat → Int} (h : NcI g n X Y) (f : ∀ k j, 211 ≤ k → k ≤ 222 → g'.1 k j = g.1 k j ∧ g'.2 k j = g.2 k j) : NcI g' n X Y := by
  obtain ⟨mu, ba, h1, h2, h3, h4, h5⟩ := h
  refine ⟨mu, ba, ?_, ?_, h3, h4, fun q => ?_⟩
  · rw [(f _ _ (by omega) (by omega)).2, h1]
  · rw [(f _ _ (by omega) (by omega)).2, h2]
  · rw [(f 219 3 (by omega) (by omega)).1, (f 211 10 (by omega) (by omega)).1] at q
    obtain ⟨⟨W, k1⟩, k2, k3⟩ := h5 q
    refine ⟨⟨W, nw_of k1 (f _ _ (by omega) (by omega)).1 (funext fun j => (f _ _ (by omega) (by omega)).2) (funext fun j => (f _ _ (by omega) (by omega)).2)⟩, ?_, fun i hi => ?_⟩
    · rw [(f _ _ (by omega) (by omega)).1, k2]
    · rw [(f _ _ (by omega) (by omega)).2, k3 i hi]
theorem swI_fr {g g' : zIJ} {n : Nat} {X Y : Nat → Int} {A : Int} (h : SwI g n X Y A) (f : ∀ k j, 226 ≤ k → k ≤ 229 → g'.1 k j = g.1 k j ∧ g'.2 k j = g.2 k j) : SwI g' n X Y A := by
  obtain ⟨c, h1, h2, h3, h4⟩ := h
  refine ⟨c, ?_, h2, h3, fun q => ?_⟩
  · rw [(f _ _ (by omega) (by omega)).1, h1]
  · obtain ⟨w, w1, w2, P, R, k1, k2, k3, k4, k5, k6⟩ := h4 q
    refine ⟨w, w1, ?_, P, R, k1, k2, k3, ?_, ?_, fun i hi => ⟨?_, ?_, ?_⟩⟩
    · rw [(f _ _ (by omega) (by omega)).2, w2]
    · rw [(f _ _ (by omega) (by omega)).1, k4]
    · rw [(f _ _ (by omega) (by omega)).1, k5]
    · rw [(f _ _ (by omega) (by omega)).1, (k6 i hi).1]
    · rw [(f _ _ (by omega) (by omega)).1, (k6 i hi).2.1]
    · rw [(f _ _ (by omega) (by omega)).1, (k6 i hi).2.2]
theorem cache_fr {g g' : zIJ} {n t : Nat} {X Y : Nat → Int} (h : Cache g n X Y t) (f : ∀ k j, 211 ≤ k → k ≤ 229 → ¬ (223 ≤ k ∧ k ≤ 225) → g'.1 k j = g.1 k j ∧ g'.2 k j = g.2 k j) : Cache g' n X Y t := by
  obtain ⟨h1, h2, A, b, h3, h4, h5, h6, h7, h8, h9⟩ := h
  refine ⟨pok_of h1 (fun k j k1 k2 _ => f k j (by omega) (by omega) (by omega)), ncI_fr h2 (fun k j k1 k2 => f k j (by omega) (by omega) (by omega)), A, b, ?_, h4, h5, ?_, h7, h8, swI_fr h9 (fun k j k1 k2 => f k j (by omega) (by omega) (by omega))⟩
  · rw [(f _ _ (by omega) (by omega) (by omega)).1, h3]
  · rw [(f _ _ (by omega) (by omega) (by omega)).1, h6]
theorem cache_le {g : zIJ} {n t t' : Nat} {X Y : Nat → Int} (h : Cache g n X Y t) (ht : t ≤ t') : Cache g n X Y t' := by
  obtain ⟨h1, h2, A, b, h3, h4, h5, h6, h7, h8, h9⟩ := h
  exact ⟨h1, h2, A, b, h3, h4, by omega, h6, h7, h8, h9⟩
theorem ci_le {g : zIJ} {σ : zS} {t t' : Nat} (h : CI g σ t) (ht : t ≤ t') : CI g σ t' := by
  obtain ⟨h1, n, X, Y, h2⟩ := h
  exact ⟨h1, n, X, Y, cache_le h2 ht⟩
theorem cip_ci {g : zIJ} {σ : zS} {t : Nat} (h : CIp g σ t) : CI g σ t := ⟨h.1, _, _, _, h.2⟩
theorem cip_le {g : zIJ} {σ : zS} {t t' : Nat} (h : CIp g σ t) (ht : t ≤ t') : CIp g σ t' := ⟨h.1, cache_le h.2 ht⟩
theorem cin_le {g : zIJ} {σ : zS} {t t' : Nat} (h : CIn g σ t) (ht : t ≤ t') : CIn g σ t' := ⟨cip_le h.1 ht, h.2⟩
/-- the cells of search, ways, meter, polygon alone are touched -/
def tW (k _j : Nat) : Bool := decide ((223 ≤ k ∧ k ≤ 225) ∨ (230 ≤ k ∧ k ≤ 236))
theorem cip_w {g g' : zIJ} {σ : zS} {t : Nat} (h : CIp g σ t) (f : zFr tW g g') : CIp g' σ t := ⟨ci0_fr h.1 (fr_ud f (fun a b q => by have := of_decide_eq_true q; omega)), cache_fr h.2 (fun k j k1 k2 k3 => f k j (decide_eq_false (by omega)))⟩
theorem cin_w {g g' : zIJ} {σ : zS} {t : Nat} (h : CIn g σ t) (f : zFr tW g g') : CIn g' σ t := by
  have f' : ∀ k j, 211 ≤ k → k ≤ 222 → g'.1 k j = g.1 k j ∧ g'.2 k j = g.2 k j := fun k j k1 k2 => f k j (decide_eq_false (by omega))
  refine ⟨cip_w h.1 f, ⟨?_, fun i hi => ?_⟩, ?_, ?_, ?_⟩
  · rw [(f' _ _ (by omega) (by omega)).1, h.2.1.1]
  · rw [(f' _ _ (by omega) (by omega)).2, h.2.1.2 i hi]
  · rw [(f' _ _ (by omega) (by omega)).1, (f' _ _ (by omega) (by omega)).1, h.2.2.1]
  · rw [(f' _ _ (by omega) (by omega)).2, h.2.2.2.1]
  · rw [(f' _ _ (by omega) (by omega)).2, h.2.2.2.2]
/-! boards as they are read -/
theorem xs_in {s : Nat → Int32} {i : Nat} (h : i < nS s) : cI (XS s i) = s (2 + 2 * i) ∧ cI (YS s i) = s (3 + 2 * i) := by
  unfold XS YS
  rw [if_pos h, if_pos h]
  exact ⟨Int32.ofInt_toInt _, Int32.ofInt_toInt _⟩
theorem wf_n {s : Nat → Int32} (h : Wf s) : nS s ≤ 9 := h.2.1.1
theorem rb_s {g : zIJ} {s : Nat → Int32} (h : RBo g 251 s) (hw : Wf s) : RB g (nS s) (XS s) (YS s) := by
  have := wf_n hw
  refine ⟨this, by rw [h 0 (by omega)]; exact hw.1, fun i hi => ?_⟩
  rw [h _ (by omega), h _ (by omega), (xs_in hi).1, (xs_in hi).2]
  exact ⟨rfl, rfl⟩
theorem cb_s {g : zIJ} {s : Nat → Int32} (h : CBo g 4 s) (hw : Wf s) : CB g (nS s) (XS s) (YS s) := by
  have := wf_n hw
  refine ⟨this, by rw [h.1]; exact hw.1, fun i hi => ?_⟩
  have := h.2.2.1 i (by omega)
  rw [(xs_in hi).1, (xs_in hi).2]
  exact this
theorem nsL_ok {s : Nat → Int32} (h : Wf s) : LOk (nsL s) := by
  obtain ⟨h1, ⟨p1, p2, p3, p4, p5⟩, h3, h4, h5⟩ := h
  refine ⟨netsOf_len p3 p4 p1 h3, ?_, fun x hx => ?_⟩
  · unfold nsL netsOf
    cases Nat.blt (nS s) 3
    · exact netL_sorted _ _
    · exact List.Pairwise.nil
  · unfold nsL netsOf at hx
    cases q : Nat.blt (nS s) 3 with
    | false =>
      rw [q] at hx
      exact ((netL_mem p3 p1 (mM_can h3 (by decide))).mp hx).1
    | true =>
      rw [q] at hx
      cases hx
theorem nsL_flt {s : Nat → Int32} (h : Wf s) : flt (mM s 1) (mM s 2) (wholeL (XS s) (YS s) (nS s)) = nsL s := by
  obtain ⟨h1, ⟨p1, p2, p3, p4, p5⟩, h3, h4, h5⟩ := h
  unfold nsL netsOf wholeL
  cases Nat.blt (nS s) 3
  · exact flt_netL p3 p1 (mM_can h3 (by decide))
  · rfl
