/-! The law's loop. -/
def isI (v : Value) : Prop := ∃ x, v = .int x
def isL (v : Value) : Prop := ∃ x, v = .long x
/-- as PairL, and the kind of what is answered -/
def PairK (k : Value → Prop) (c r : zIJ → Option zRes) : Prop := ∀ (σ : zS) (g : zIJ) (t : Nat), Wfs σ → CI g σ t → t ≤ 900000 → ∃ v σ', k v ∧ Wfs σ' ∧ COk (c g) g v σ' (t + 2) ∧ ∀ g', RI g' σ → ROk (r g') g' v σ'
def irI (r : Option zRes) : Prop := ∀ v g, r = some (some v, g) → isI v
def irL (r : Option zRes) : Prop := ∀ v g, r = some (some v, g) → isL v
theorem pk_of {k : Value → Prop} {c r : zIJ → Option zRes} (h : PairL c r) (hk : ∀ g v g', c g = some (some v, g') → k v) : PairK k c r := fun σ g t hw hc ht => by
  obtain ⟨v, σ', w, cc, rr⟩ := h σ g t hw hc ht
  obtain ⟨g', e, r⟩ := cc
  exact ⟨v, σ', hk g v g' e, w, ⟨g', e, r⟩, rr⟩
theorem irI_n : irI none := fun v g h => by cases h
theorem irL_n : irL none := fun v g h => by cases h
theorem irI_l (x : Int32) (g : zIJ) : irI (some (some (.int x), g)) := fun v g' h => by cases h; exact ⟨x, rfl⟩
theorem irL_l (x : Int64) (g : zIJ) : irL (some (some (.long x), g)) := fun v g' h => by cases h; exact ⟨x, rfl⟩
theorem irI_c {b : Bool} {x y : Option zRes} (hx : irI x) (hy : irI y) : irI (cond b x y) := by cases b; exact hy; exact hx
theorem irL_c {b : Bool} {x y : Option zRes} (hx : irL x) (hy : irL y) : irL (cond b x y) := by cases b; exact hy; exact hx
theorem irI_aI {X : Option zRes} {k : Int32 → zIJ → Option zRes} (h : ∀ x g, irI (k x g)) : irI (zaI X k) := by
  unfold zaI
  split
  · exact h _ _
  · exact irI_n
theorem irI_aL {X : Option zRes} {k : Int64 → zIJ → Option zRes} (h : ∀ x g, irI (k x g)) : irI (zaL X k) := by
  unfold zaL
  split
  · exact h _ _
  · exact irI_n
theorem irI_aV {X : Option zRes} {k : zIJ → Option zRes} (h : ∀ g, irI (k g)) : irI (zaV X k) := by
  unfold zaV
  split
  · exact h _
  · exact irI_n
theorem irL_aI {X : Option zRes} {k : Int32 → zIJ → Option zRes} (h : ∀ x g, irL (k x g)) : irL (zaI X k) := by
  unfold zaI
  split
  · exact h _ _
  · exact irL_n
theorem irL_aL {X : Option zRes} {k : Int64 → zIJ → Option zRes} (h : ∀ x g, irL (k x g)) : irL (zaL X k) := by
  unfold zaL
  split
  · exact h _ _
  · exact irL_n
theorem irL_aV {X : Option zRes} {k : zIJ → Option zRes} (h : ∀ g, irL (k g)) : irL (zaV X k) := by
  unfold zaV
  split
  · exact h _
  · exact irL_n
theorem ir_mark79 (g : zIJ) (a b : Int32) : irI (zev mX11_mark 79 [.ref 3, .int a, .int b] g) := by
  rw [uX11_mark_79]
  repeat' first | exact irI_n | exact irI_l _ _ | apply irI_c | (apply irI_aI; intro _ _) | (apply irI_aL; intro _ _) | (apply irI_aV; intro _)
theorem k_empty (a : Int32) : PairK isI (fun g => zev mX11_empty 0 [.ref 3, .int a] g) (fun g => zev mX12_empty 0 [.ref 250, .int a] g) := by
  intro σ g t hw h ht
  have hn := wf_n hw.1
  have hP := hw.1.2.1
  obtain ⟨f, hf⟩ := j_bc
  by_cases q1 : 3 ≤ a.toInt ∧ a.toInt ≤ 6
  · obtain ⟨g1, x1, f1, ip⟩ := c_fol hw h (by omega)
    have pok := ip.2.1
    have h7 := pok.1.2.1
    have pw : 2 ^ nS σ.s ≤ 2 ^ 9 := Nat.pow_le_pow_right (by omega) hn
    obtain ⟨H, eH⟩ : ∃ H : Nat → Int32 → Int32, H = fun i s => cond (decide (f (nI i) = a) && cdec (Holl (XS σ.s) (YS σ.s) (nS σ.s) i)) (s + 1) s := ⟨_, rfl⟩
    refine ⟨.int (itr H (2 ^ nS σ.s) 0 0), σ, ⟨_, rfl⟩, hw, ?_, fun g' r => ?_⟩
    · show COk (zev mX11_empty 0 _ g) _ _ _ _
      have z := ziter (F := fun i s => zev mX11_empty 32 [.ref 3, .int a, .int s, .int (nI i)] g1) (R := fun s => some (some (.int s), g1)) (n := 2 ^ nS σ.s) (h := H) (fun i s hi => ?_) (fun s => ?_) (2 ^ nS σ.s) 0 0 (by omega)
      · rw [uX11_empty_0, lt_d a 3, led a 6, show (3 : Int32).toInt = 3 from rfl, show (6 : Int32).toInt = 6 from rfl, decide_eq_false (show ¬ a.toInt < 3 by omega), decide_eq_true q1.2, x1, zaV_some]
        show COk (zev mX11_empty 32 [.ref 3, .int a, .int 0, .int (nI 0)] g1) _ _ _ _
        rw [show zev mX11_empty 32 [.ref 3, .int a, .int 0, .int (nI 0)] g1 = _ from z]
        exact cok_of (cip_ci ip) f1 (by omega)
      · show zev mX11_empty 32 _ g1 = zev mX11_empty 32 _ g1
        rw [uX11_empty_32, h7, sh1_i _ (by omega), decide_eq_false (nI_ge (a := i) (b := 2 ^ nS σ.s) hi (by omega)), hf, zaI_some, c_isHollow pok (by omega : i < 2 ^ 9), zaI_some, bI_0, eH]
        simp only [nI_1]
        cases decide (f (nI i) = a)
        · rfl
        · cases cdec (Holl (XS σ.s) (YS σ.s) (nS σ.s) i) <;> rfl
      · show zev mX11_empty 32 _ g1 = _
        rw [uX11_empty_32, h7, sh1_i _ (by omega), decide_eq_true (nI_le (Nat.le_refl _) (by omega))]; rfl
    · show ROk (zev mX12_empty 0 _ g') _ _ _
      have rb := rb_s r.1.1 hw.1
      have z := ziter (F := fun i s => zev mX12_empty 24 [.ref 250, .int a, .int s, .int (nI i)] g') (R := fun s => some (some (.int s), g')) (n := 2 ^ nS σ.s) (h := H) (fun i s hi => ?_) (fun s => ?_) (2 ^ nS σ.s) 0 0 (by omega)
      · rw [uX12_empty_0, r_inI g' a (lo := 3) (l := 3) (hi := 6) (h := 6) rfl rfl, zaI_some, decide_eq_true q1]
        show ROk (zev mX12_empty 24 [.ref 250, .int a, .int 0, .int (nI 0)] g') _ _ _
        rw [show zev mX12_empty 24 [.ref 250, .int a, .int 0, .int (nI 0)] g' = _ from z]
        exact rok_of r (fr_refl tR g')
      · show zev mX12_empty 24 _ g' = zev mX12_empty 24 _ g'
        rw [uX12_empty_24, r_points rb, zaI_some, sh1_i _ (by omega), decide_eq_false (nI_ge (a := i) (b := 2 ^ nS σ.s) hi (by omega)), hf, zaI_some, r_isEmpty rb hP.2.1, zaI_some, bI_0, Int32.add_zero, eH]
        simp only [nI_1]
        cases decide (f (nI i) = a)
        · rfl
        · cases cdec (Holl (XS σ.s) (YS σ.s) (nS σ.s) i) <;> rfl
      · show zev mX12_empty 24 _ g' = _
        rw [uX12_empty_24, r_points rb, zaI_some, sh1_i _ (by omega), decide_eq_true (nI_le (Nat.le_refl _) (by omega))]; rfl
  · refine ⟨fI 0, fdn σ 0, ⟨_, rfl⟩, wfs_fdn hw 0, ?_, fun g' r => ?_⟩
    · show COk (zev mX11_empty 0 _ g) _ _ _ _
      have fd := cok_le (cok_find (k := 0) h (fr_refl _ g) (by omega)) (by omega : t ≤ t + 2)
      rw [uX11_empty_0, lt_d a 3, led a 6, show (3 : Int32).toInt = 3 from rfl, show (6 : Int32).toInt = 6 from rfl]
      by_cases z : a.toInt < 3
      · rw [decide_eq_true z]; exact fd
      · rw [decide_eq_false z, decide_eq_false (by omega)]; exact fd
    · show ROk (zev mX12_empty 0 _ g') _ _ _
      rw [uX12_empty_0, r_inI g' a (lo := 3) (l := 3) (hi := 6) (h := 6) rfl rfl, zaI_some, decide_eq_false q1]
      exact rok_find (k := 0) r hw (fr_refl tR g') (by omega)

theorem k_status (a : Int32) : PairK isI (fun g => zev mX11_status 0 [.ref 3, .int a] g) (fun g => zev mX12_status 0 [.ref 250, .int a] g) := by
  intro σ g t hw h ht
  have e0 : (0 : Int32).toInt = 0 := rfl
  have e8 : (8 : Int32).toInt = 8 := rfl
  have em : (-1 : Int32).toInt = -1 := rfl
  by_cases q : -1 ≤ a.toInt ∧ a.toInt ≤ 7
  · by_cases qm : a.toInt < 0
    · have ea : a = -1 := Int32.toInt_inj.mp (by rw [em]; omega)
      subst ea
      refine ⟨.int (itr (fun k c => c + σ.fd k) 8 0 0), σ, ⟨_, rfl⟩, hw, ?_, fun g' r => ?_⟩
      · show COk (zev mX11_status 0 _ g) _ _ _ _
        rw [uX11_status_0]
        have := zit (F := fun k c => zev mX11_status 32 [.ref 3, .int c, .int (nI k)] g) (lo := 0) (n := 8) (R := fun c => some (some (.int c), g)) (h := fun k c => c + σ.fd k) (fun k c _ hk => by
          rw [uX11_status_32, show decide (8 ≤ nI k) = false from decide_eq_false (nI_ge (a := k) (b := 8) hk (by omega)), zin_n hk (by omega), nI_clamp (by omega : k < 2 ^ 31), h.1.2.2.2.2.1 k hk, nI_1]
          rfl) (fun c => by rw [uX11_status_32]; rfl) 8 0 0 (Nat.le_refl _) (by omega)
        show COk (zev mX11_status 32 [.ref 3, .int 0, .int (nI 0)] g) g _ _ _
        rw [this]
        exact cok_of h (fr_refl _ g) (by omega)
      · show ROk (zev mX12_status 0 _ g') _ _ _
        rw [uX12_status_0, r_inI g' (-1) (lo := -1) (l := -1) (hi := 7) (h := 7) rfl rfl, zaI_some]
        have := zit (F := fun k c => zev mX12_status 24 [.ref 250, .int (-1), .int c, .int (nI k)] g') (lo := 0) (n := 8) (R := fun c => some (some (.int c), g')) (h := fun k c => c + σ.fd k) (fun k c _ hk => by
          rw [uX12_status_24, show decide (8 ≤ nI k) = false from decide_eq_false (nI_ge (a := k) (b := 8) hk (by omega)), zin_n hk (by omega), nI_clamp (by omega : k < 2 ^ 31), r.1.2.2.2.2.1 k hk, nI_1]
          rfl) (fun c => by rw [uX12_status_24]; rfl) 8 0 0 (Nat.le_refl _) (by omega)
        show ROk (zev mX12_status 24 [.ref 250, .int (-1), .int 0, .int (nI 0)] g') g' _ _
        rw [this]
        exact rok_of r (fr_refl _ _)
    · obtain ⟨j, hj, e⟩ := i_small (k := 7) (by omega) q.2 (by omega)
      subst e
      have c0 : decide (nI j < 0) = false := decide_eq_false (nI_n0 (by omega))
      refine ⟨.int (σ.fd j), σ, ⟨_, rfl⟩, hw, ?_, fun g' r => ?_⟩
      · show COk (zev mX11_status 0 _ g) _ _ _ _
        rw [uX11_status_0, show decide (nI j < -1) = false from decide_eq_false (fun k => by rw [Int32.lt_iff_toInt_lt, em] at k; omega), show decide (nI j < 8) = true from decide_eq_true (nI_lt (a := j) (b := 8) (by omega) (by omega)), c0, zin_n (by omega : j < 8) (by omega), nI_clamp (by omega : j < 2 ^ 31), h.1.2.2.2.2.1 j (by omega)]
        exact cok_of h (fr_refl _ g) (by omega)
      · show ROk (zev mX12_status 0 _ g') _ _ _
        rw [uX12_status_0, r_inI g' (nI j) (lo := -1) (l := -1) (hi := 7) (h := 7) rfl rfl, zaI_some, decide_eq_true q]
        have := zit (F := fun k c => zev mX12_status 24 [.ref 250, .int (nI j), .int c, .int (nI k)] g') (lo := 0) (n := 8) (R := fun c => some (some (.int c), g')) (h := fun k c => c + cond (decide (j = k)) (σ.fd k) 0) (fun k c _ hk => by
          rw [uX12_status_24, show decide (8 ≤ nI k) = false from decide_eq_false (nI_ge (a := k) (b := 8) hk (by omega)), c0, nI_de (by omega) (by omega), zin_n hk (by omega), nI_clamp (by omega : k < 2 ^ 31), r.1.2.2.2.2.1 k hk]
          simp only [nI_1]
          cases decide (j = k) <;> rfl) (fun c => by rw [uX12_status_24]; rfl) 8 0 0 (Nat.le_refl _) (by omega)
        show ROk (zev mX12_status 24 [.ref 250, .int (nI j), .int 0, .int (nI 0)] g') g' _ _
        rw [this]
        have e : itr (fun k c => c + cond (decide (j = k)) (σ.fd k) 0) 8 0 (0 : Int32) = σ.fd j := by
          have : j = 0 ∨ j = 1 ∨ j = 2 ∨ j = 3 ∨ j = 4 ∨ j = 5 ∨ j = 6 ∨ j = 7 := by omega
          rcases this with e | e | e | e | e | e | e | e <;> subst e <;> simp [itr]
        rw [e]
        exact rok_of r (fr_refl _ _)
  · refine ⟨fI 0, fdn σ 0, ⟨_, rfl⟩, wfs_fdn hw 0, ?_, fun g' r => ?_⟩
    · show COk (zev mX11_status 0 _ g) _ _ _ _
      have fd := cok_le (cok_find (k := 0) h (fr_refl _ g) (by omega)) (by omega : t ≤ t + 2)
      rw [uX11_status_0, lt_d, em]
      by_cases q3 : a.toInt < -1
      · rw [decide_eq_true q3]; exact fd
      · rw [decide_eq_false q3, lt_d a 8, e8, decide_eq_false (show ¬ a.toInt < 8 by omega)]; exact fd
    · show ROk (zev mX12_status 0 _ g') _ _ _
      rw [uX12_status_0, r_inI g' a (lo := -1) (l := -1) (hi := 7) (h := 7) rfl rfl, zaI_some, decide_eq_false q]
      exact rok_find (k := 0) r hw (fr_refl _ _) (by omega)
theorem k_place (a0 : Int32) (a1 : Int32) : PairK isI (fun g => zev mX11_place 0 [.ref 3, .int a0, .int a1] g) (fun g => zev mX12_place 0 [.ref 250, .int a0, .int a1] g) := pk_of (pl_c (p_place a0 a1)) (fun g => by
  show irI (zev mX11_place 0 [.ref 3, .int a0, .int a1] g)
  rw [uX11_place_0]
  repeat' first | exact irI_n | exact irI_l _ _ | apply irI_c | (apply irI_aI; intro _ _) | (apply irI_aL; intro _ _) | (apply irI_aV; intro _))
theorem k_drop  : PairK isI (fun g => zev mX11_drop 0 [.ref 3] g) (fun g => zev mX12_drop 0 [.ref 250] g) := pk_of (pl_c p_drop) (fun g => by
  show irI (zev mX11_drop 0 [.ref 3] g)
  rw [uX11_drop_0]
  repeat' first | exact irI_n | exact irI_l _ _ | apply irI_c | (apply irI_aI; intro _ _) | (apply irI_aL; intro _ _) | (apply irI_aV; intro _))
theorem k_move (a0 : Int32) (a1 : Int32) (a2 : Int32) : PairK isI (fun g => zev mX11_move 0 [.ref 3, .int a0, .int a1, .int a2] g) (fun g => zev mX12_move 0 [.ref 250, .int a0, .int a1, .int a2] g) := pk_of (pl_c (p_move a0 a1 a2)) (fun g => by
  show irI (zev mX11_move 0 [.ref 3, .int a0, .int a1, .int a2] g)
  rw [uX11_move_0]
  repeat' first | exact irI_n | exact irI_l _ _ | apply irI_c | (apply irI_aI; intro _ _) | (apply irI_aL; intro _ _) | (apply irI_aV; intro _))
theorem k_at (a0 : Int32) (a1 : Int32) : PairK isI (fun g => zev mX11_at 0 [.ref 3, .int a0, .int a1] g) (fun g => zev mX12_at 0 [.ref 250, .int a0, .int a1] g) := pk_of (pl_c (p_at a0 a1)) (fun g => by
  show irI (zev mX11_at 0 [.ref 3, .int a0, .int a1] g)
  rw [uX11_at_0]
  repeat' first | exact irI_n | exact irI_l _ _ | apply irI_c | (apply irI_aI; intro _ _) | (apply irI_aL; intro _ _) | (apply irI_aV; intro _))
theorem k_mark (a0 : Int32) (a1 : Int32) (a2 : Int32) : PairK isI (fun g => zev mX11_mark 0 [.ref 3, .int a0, .int a1, .int a2] g) (fun g => zev mX12_mark 0 [.ref 250, .int a0, .int a1, .int a2] g) := pk_of (pl_c (p_mark a0 a1 a2)) (fun g => by
  show irI (zev mX11_mark 0 [.ref 3, .int a0, .int a1, .int a2] g)
  rw [uX11_mark_0]
  repeat' first | exact irI_n | exact irI_l _ _ | exact ir_mark79 _ _ _ | apply irI_c | (apply irI_aI; intro _ _) | (apply irI_aL; intro _ _) | (apply irI_aV; intro _))
theorem k_markOf (a0 : Int32) (a1 : Int32) : PairK isI (fun g => zev mX11_markOf 0 [.ref 3, .int a0, .int a1] g) (fun g => zev mX12_markOf 0 [.ref 250, .int a0, .int a1] g) := pk_of (pl_c (p_markOf a0 a1)) (fun g => by
  show irI (zev mX11_markOf 0 [.ref 3, .int a0, .int a1] g)
  rw [uX11_markOf_0]
  repeat' first | exact irI_n | exact irI_l _ _ | apply irI_c | (apply irI_aI; intro _ _) | (apply irI_aL; intro _ _) | (apply irI_aV; intro _))
theorem k_turn (a0 : Int32) (a1 : Int32) (a2 : Int32) : PairK isI (fun g => zev mX11_turn 0 [.ref 3, .int a0, .int a1, .int a2] g) (fun g => zev mX12_turn 0 [.ref 250, .int a0, .int a1, .int a2] g) := pk_of (pl_c (p_turn a0 a1 a2)) (fun g => by
  show irI (zev mX11_turn 0 [.ref 3, .int a0, .int a1, .int a2] g)
  rw [uX11_turn_0]
  repeat' first | exact irI_n | exact irI_l _ _ | apply irI_c | (apply irI_aI; intro _ _) | (apply irI_aL; intro _ _) | (apply irI_aV; intro _))
theorem k_crosses (a0 : Int32) (a1 : Int32) (a2 : Int32) (a3 : Int32) : PairK isI (fun g => zev mX11_crosses 0 [.ref 3, .int a0, .int a1, .int a2, .int a3] g) (fun g => zev mX12_crosses 0 [.ref 250, .int a0, .int a1, .int a2, .int a3] g) := pk_of (pl_c (p_crosses a0 a1 a2 a3)) (fun g => by
  show irI (zev mX11_crosses 0 [.ref 3, .int a0, .int a1, .int a2, .int a3] g)
  rw [uX11_crosses_0]
  repeat' first | exact irI_n | exact irI_l _ _ | apply irI_c | (apply irI_aI; intro _ _) | (apply irI_aL; intro _ _) | (apply irI_aV; intro _))
theorem k_hull (a0 : Int32) : PairK isI (fun g => zev mX11_hull 0 [.ref 3, .int a0] g) (fun g => zev mX12_hull 0 [.ref 250, .int a0] g) := pk_of (pl_c (p_hull a0)) (fun g => by
  show irI (zev mX11_hull 0 [.ref 3, .int a0] g)
  rw [uX11_hull_0]
  repeat' first | exact irI_n | exact irI_l _ _ | apply irI_c | (apply irI_aI; intro _ _) | (apply irI_aL; intro _ _) | (apply irI_aV; intro _))
theorem k_nets  : PairK isI (fun g => zev mX11_nets 0 [.ref 3] g) (fun g => zev mX12_nets 0 [.ref 250] g) := pk_of (pl_c p_nets) (fun g => by
  show irI (zev mX11_nets 0 [.ref 3] g)
  rw [uX11_nets_0]
  repeat' first | exact irI_n | exact irI_l _ _ | apply irI_c | (apply irI_aI; intro _ _) | (apply irI_aL; intro _ _) | (apply irI_aV; intro _))
theorem k_net (a0 : Int32) : PairK isL (fun g => zev mX11_net 0 [.ref 3, .int a0] g) (fun g => zev mX12_net 0 [.ref 250, .int a0] g) := pk_of (pl_c (p_net a0)) (fun g => by
  show irL (zev mX11_net 0 [.ref 3, .int a0] g)
  rw [uX11_net_0]
  repeat' first | exact irL_n | exact irL_l _ _ | apply irL_c | (apply irL_aI; intro _ _) | (apply irL_aL; intro _ _) | (apply irL_aV; intro _))
theorem k_rank (a0 : Int64) : PairK isI (fun g => zev mX11_rank 0 [.ref 3, .long a0] g) (fun g => zev mX12_rank 0 [.ref 250, .long a0] g) := pk_of (pl_c (p_rank a0)) (fun g => by
  show irI (zev mX11_rank 0 [.ref 3, .long a0] g)
  rw [uX11_rank_0]
  repeat' first | exact irI_n | exact irI_l _ _ | apply irI_c | (apply irI_aI; intro _ _) | (apply irI_aL; intro _ _) | (apply irI_aV; intro _))
theorem k_with (a0 : Int32) (a1 : Int32) : PairK isI (fun g => zev mX11_with 0 [.ref 3, .int a0, .int a1] g) (fun g => zev mX12_with 0 [.ref 250, .int a0, .int a1] g) := pk_of (pl_c (p_with a0 a1)) (fun g => by
  show irI (zev mX11_with 0 [.ref 3, .int a0, .int a1] g)
  rw [uX11_with_0]
  repeat' first | exact irI_n | exact irI_l _ _ | apply irI_c | (apply irI_aI; intro _ _) | (apply irI_aL; intro _ _) | (apply irI_aV; intro _))
theorem k_always (a0 : Int32) : PairK isL (fun g => zev mX11_always 0 [.ref 3, .int a0] g) (fun g => zev mX12_always 0 [.ref 250, .int a0] g) := pk_of (pl_c (p_always a0)) (fun g => by
  show irL (zev mX11_always 0 [.ref 3, .int a0] g)
  rw [uX11_always_0]
  repeat' first | exact irL_n | exact irL_l _ _ | apply irL_c | (apply irL_aI; intro _ _) | (apply irL_aL; intro _ _) | (apply irL_aV; intro _))
theorem k_draw  : PairK isI (fun g => zev mX11_draw 0 [.ref 3] g) (fun g => zev mX12_draw 0 [.ref 250] g) := pk_of (pl_c p_draw) (fun g => by
  show irI (zev mX11_draw 0 [.ref 3] g)
  rw [uX11_draw_0]
  repeat' first | exact irI_n | exact irI_l _ _ | apply irI_c | (apply irI_aI; intro _ _) | (apply irI_aL; intro _ _) | (apply irI_aV; intro _))
theorem k_fan (a0 : Int32) (a1 : Int32) : PairK isI (fun g => zev mX11_fan 0 [.ref 3, .int a0, .int a1] g) (fun g => zev mX12_fan 0 [.ref 250, .int a0, .int a1] g) := pk_of (pl_c (p_fan a0 a1)) (fun g => by
  show irI (zev mX11_fan 0 [.ref 3, .int a0, .int a1] g)
  rw [uX11_fan_0]
  repeat' first | exact irI_n | exact irI_l _ _ | apply irI_c | (apply irI_aI; intro _ _) | (apply irI_aL; intro _ _) | (apply irI_aV; intro _))
theorem k_flips (a0 : Int32) : PairK isL (fun g => zev mX11_flips 0 [.ref 3, .int a0] g) (fun g => zev mX12_flips 0 [.ref 250, .int a0] g) := pk_of (pl_c (p_flips a0)) (fun g => by
  show irL (zev mX11_flips 0 [.ref 3, .int a0] g)
  rw [uX11_flips_0]
  repeat' first | exact irL_n | exact irL_l _ _ | apply irL_c | (apply irL_aI; intro _ _) | (apply irL_aL; intro _ _) | (apply irL_aV; intro _))
theorem k_flip (a0 : Int32) (a1 : Int32) (a2 : Int32) : PairK isI (fun g => zev mX11_flip 0 [.ref 3, .int a0, .int a1, .int a2] g) (fun g => zev mX12_flip 0 [.ref 250, .int a0, .int a1, .int a2] g) := pk_of (pl_c (p_flip a0 a1 a2)) (fun g => by
  show irI (zev mX11_flip 0 [.ref 3, .int a0, .int a1, .int a2] g)
  rw [uX11_flip_0]
  repeat' first | exact irI_n | exact irI_l _ _ | apply irI_c | (apply irI_aI; intro _ _) | (apply irI_aL; intro _ _) | (apply irI_aV; intro _))
theorem k_apart (a0 : Int32) (a1 : Int32) : PairK isI (fun g => zev mX11_apart 0 [.ref 3, .int a0, .int a1] g) (fun g => zev mX12_apart 0 [.ref 250, .int a0, .int a1] g) := pk_of (p_apart a0 a1) (fun g => by
  show irI (zev mX11_apart 0 [.ref 3, .int a0, .int a1] g)
  rw [uX11_apart_0]
  repeat' first | exact irI_n | exact irI_l _ _ | apply irI_c | (apply irI_aI; intro _ _) | (apply irI_aL; intro _ _) | (apply irI_aV; intro _))
theorem k_path (a0 : Int32) (a1 : Int32) : PairK isI (fun g => zev mX11_path 0 [.ref 3, .int a0, .int a1] g) (fun g => zev mX12_path 0 [.ref 250, .int a0, .int a1] g) := pk_of (pl_c (p_path a0 a1)) (fun g => by
  show irI (zev mX11_path 0 [.ref 3, .int a0, .int a1] g)
  rw [uX11_path_0]
  repeat' first | exact irI_n | exact irI_l _ _ | apply irI_c | (apply irI_aI; intro _ _) | (apply irI_aL; intro _ _) | (apply irI_aV; intro _))
theorem k_advance (a0 : Int32) (a1 : Int32) (a2 : Int32) : PairK isI (fun g => zev mX11_advance 0 [.ref 3, .int a0, .int a1, .int a2] g) (fun g => zev mX12_advance 0 [.ref 250, .int a0, .int a1, .int a2] g) := pk_of (pl_c (p_advance a0 a1 a2)) (fun g => by
  show irI (zev mX11_advance 0 [.ref 3, .int a0, .int a1, .int a2] g)
  rw [uX11_advance_0]
  repeat' first | exact irI_n | exact irI_l _ _ | apply irI_c | (apply irI_aI; intro _ _) | (apply irI_aL; intro _ _) | (apply irI_aV; intro _))
theorem k_ways  : PairK isI (fun g => zev mX11_ways 0 [.ref 3] g) (fun g => zev mX12_ways 0 [.ref 250] g) := pk_of (pl_c p_ways) (fun g => by
  show irI (zev mX11_ways 0 [.ref 3] g)
  rw [uX11_ways_0]
  repeat' first | exact irI_n | exact irI_l _ _ | apply irI_c | (apply irI_aI; intro _ _) | (apply irI_aL; intro _ _) | (apply irI_aV; intro _))
theorem k_step (a0 : Int32) (a1 : Int32) : PairK isI (fun g => zev mX11_step 0 [.ref 3, .int a0, .int a1] g) (fun g => zev mX12_step 0 [.ref 250, .int a0, .int a1] g) := pk_of (pl_c (p_step a0 a1)) (fun g => by
  show irI (zev mX11_step 0 [.ref 3, .int a0, .int a1] g)
  rw [uX11_step_0]
  repeat' first | exact irI_n | exact irI_l _ _ | apply irI_c | (apply irI_aI; intro _ _) | (apply irI_aL; intro _ _) | (apply irI_aV; intro _))
theorem k_stepOf (a0 : Int32) (a1 : Int32) : PairK isI (fun g => zev mX11_stepOf 0 [.ref 3, .int a0, .int a1] g) (fun g => zev mX12_stepOf 0 [.ref 250, .int a0, .int a1] g) := pk_of (pl_c (p_stepOf a0 a1)) (fun g => by
  show irI (zev mX11_stepOf 0 [.ref 3, .int a0, .int a1] g)
  rw [uX11_stepOf_0]
  repeat' first | exact irI_n | exact irI_l _ _ | apply irI_c | (apply irI_aI; intro _ _) | (apply irI_aL; intro _ _) | (apply irI_aV; intro _))
theorem k_clear  : PairK isI (fun g => zev mX11_clear 0 [.ref 3] g) (fun g => zev mX12_clear 0 [.ref 250] g) := pk_of (pl_c p_clear) (fun g => by
  show irI (zev mX11_clear 0 [.ref 3] g)
  rw [uX11_clear_0]
  repeat' first | exact irI_n | exact irI_l _ _ | apply irI_c | (apply irI_aI; intro _ _) | (apply irI_aL; intro _ _) | (apply irI_aV; intro _))
theorem k_chain (a0 : Int64) : PairK isL (fun g => zev mX11_chain 0 [.ref 3, .long a0] g) (fun g => zev mX12_chain 0 [.ref 250, .long a0] g) := pk_of (pl_c (p_chain a0)) (fun g => by
  show irL (zev mX11_chain 0 [.ref 3, .long a0] g)
  rw [uX11_chain_0]
  repeat' first | exact irL_n | exact irL_l _ _ | apply irL_c | (apply irL_aI; intro _ _) | (apply irL_aL; intro _ _) | (apply irL_aV; intro _))
theorem k_ofEdge (a0 : Int32) (a1 : Int32) (a2 : Int32) : PairK isL (fun g => zev mX11_ofEdge 0 [.ref 3, .int a0, .int a1, .int a2] g) (fun g => zev mX12_ofEdge 0 [.ref 250, .int a0, .int a1, .int a2] g) := pk_of (pl_c (p_ofEdge a0 a1 a2)) (fun g => by
  show irL (zev mX11_ofEdge 0 [.ref 3, .int a0, .int a1, .int a2] g)
  rw [uX11_ofEdge_0]
  repeat' first | exact irL_n | exact irL_l _ _ | apply irL_c | (apply irL_aI; intro _ _) | (apply irL_aL; intro _ _) | (apply irL_aV; intro _))
theorem k_ofNet (a0 : Int32) (a1 : Int32) (a2 : Int32) : PairK isL (fun g => zev mX11_ofNet 0 [.ref 3, .int a0, .int a1, .int a2] g) (fun g => zev mX12_ofNet 0 [.ref 250, .int a0, .int a1, .int a2] g) := pk_of (pl_c (p_ofNet a0 a1 a2)) (fun g => by
  show irL (zev mX11_ofNet 0 [.ref 3, .int a0, .int a1, .int a2] g)
  rw [uX11_ofNet_0]
  repeat' first | exact irL_n | exact irL_l _ _ | apply irL_c | (apply irL_aI; intro _ _) | (apply irL_aL; intro _ _) | (apply irL_aV; intro _))
theorem k_best (a0 : Int32) (a1 : Int32) : PairK isI (fun g => zev mX11_best 0 [.ref 3, .int a0, .int a1] g) (fun g => zev mX12_best 0 [.ref 250, .int a0, .int a1] g) := pk_of (pl_c (p_best a0 a1)) (fun g => by
  show irI (zev mX11_best 0 [.ref 3, .int a0, .int a1] g)
  rw [uX11_best_0]
  repeat' first | exact irI_n | exact irI_l _ _ | apply irI_c | (apply irI_aI; intro _ _) | (apply irI_aL; intro _ _) | (apply irI_aV; intro _))
theorem k_area (a0 : Int32) : PairK isI (fun g => zev mX11_area 0 [.ref 3, .int a0] g) (fun g => zev mX12_area 0 [.ref 250, .int a0] g) := pk_of (pl_c (p_area a0)) (fun g => by
  show irI (zev mX11_area 0 [.ref 3, .int a0] g)
  rw [uX11_area_0]
  repeat' first | exact irI_n | exact irI_l _ _ | apply irI_c | (apply irI_aI; intro _ _) | (apply irI_aL; intro _ _) | (apply irI_aV; intro _))
theorem k_within (a0 : Int32) : PairK isI (fun g => zev mX11_within 0 [.ref 3, .int a0] g) (fun g => zev mX12_within 0 [.ref 250, .int a0] g) := pk_of (pl_c (p_within a0)) (fun g => by
  show irI (zev mX11_within 0 [.ref 3, .int a0] g)
  rw [uX11_within_0]
  repeat' first | exact irI_n | exact irI_l _ _ | apply irI_c | (apply irI_aI; intro _ _) | (apply irI_aL; intro _ _) | (apply irI_aV; intro _))
theorem k_prove (a0 : Int32) : PairK isI (fun g => zev mX11_prove 0 [.ref 3, .int a0] g) (fun g => zev mX12_prove 0 [.ref 250, .int a0] g) := pk_of (pl_c (p_prove a0)) (fun g => by
  show irI (zev mX11_prove 0 [.ref 3, .int a0] g)
  rw [uX11_prove_0]
  repeat' first | exact irI_n | exact irI_l _ _ | apply irI_c | (apply irI_aI; intro _ _) | (apply irI_aL; intro _ _) | (apply irI_aV; intro _))
theorem k_row (a0 : Int32) (a1 : Int32) : PairK isI (fun g => zev mX11_row 0 [.ref 3, .int a0, .int a1] g) (fun g => zev mX12_row 0 [.ref 250, .int a0, .int a1] g) := pk_of (pl_c (p_row a0 a1)) (fun g => by
  show irI (zev mX11_row 0 [.ref 3, .int a0, .int a1] g)
  rw [uX11_row_0]
  repeat' first | exact irI_n | exact irI_l _ _ | apply irI_c | (apply irI_aI; intro _ _) | (apply irI_aL; intro _ _) | (apply irI_aV; intro _))
theorem k_alter (a0 : Int32) (a1 : Int32) (a2 : Int32) : PairK isI (fun g => zev mX11_alter 0 [.ref 3, .int a0, .int a1, .int a2] g) (fun g => zev mX12_alter 0 [.ref 250, .int a0, .int a1, .int a2] g) := pk_of (pl_c (p_alter a0 a1 a2)) (fun g => by
  show irI (zev mX11_alter 0 [.ref 3, .int a0, .int a1, .int a2] g)
  rw [uX11_alter_0]
  repeat' first | exact irI_n | exact irI_l _ _ | apply irI_c | (apply irI_aI; intro _ _) | (apply irI_aL; intro _ _) | (apply irI_aV; intro _))
theorem k_judge (a0 : Int32) : PairK isI (fun g => zev mX11_judge 0 [.ref 3, .int a0] g) (fun g => zev mX12_judge 0 [.ref 250, .int a0] g) := pk_of (pl_c (p_judge a0)) (fun g => by
  show irI (zev mX11_judge 0 [.ref 3, .int a0] g)
  rw [uX11_judge_0]
  repeat' first | exact irI_n | exact irI_l _ _ | apply irI_c | (apply irI_aI; intro _ _) | (apply irI_aL; intro _ _) | (apply irI_aV; intro _))
theorem k_sheet (a0 : Int32) (a1 : Int32) (a2 : Int32) : PairK isI (fun g => zev mX11_sheet 0 [.ref 3, .int a0, .int a1, .int a2] g) (fun g => zev mX12_sheet 0 [.ref 250, .int a0, .int a1, .int a2] g) := pk_of (pl_c (p_sheet a0 a1 a2)) (fun g => by
  show irI (zev mX11_sheet 0 [.ref 3, .int a0, .int a1, .int a2] g)
  rw [uX11_sheet_0]
  repeat' first | exact irI_n | exact irI_l _ _ | apply irI_c | (apply irI_aI; intro _ _) | (apply irI_aL; intro _ _) | (apply irI_aV; intro _))
theorem k_write (a0 : Int32) (a1 : Int32) (a2 : Int64) : PairK isI (fun g => zev mX11_write 0 [.ref 3, .int a0, .int a1, .long a2] g) (fun g => zev mX12_write 0 [.ref 250, .int a0, .int a1, .long a2] g) := pk_of (pl_c (p_write a0 a1 a2)) (fun g => by
  show irI (zev mX11_write 0 [.ref 3, .int a0, .int a1, .long a2] g)
  rw [uX11_write_0]
  repeat' first | exact irI_n | exact irI_l _ _ | apply irI_c | (apply irI_aI; intro _ _) | (apply irI_aL; intro _ _) | (apply irI_aV; intro _))
theorem k_item (a0 : Int32) (a1 : Int32) : PairK isL (fun g => zev mX11_item 0 [.ref 3, .int a0, .int a1] g) (fun g => zev mX12_item 0 [.ref 250, .int a0, .int a1] g) := pk_of (pl_c (p_item a0 a1)) (fun g => by
  show irL (zev mX11_item 0 [.ref 3, .int a0, .int a1] g)
  rw [uX11_item_0]
  repeat' first | exact irL_n | exact irL_l _ _ | apply irL_c | (apply irL_aI; intro _ _) | (apply irL_aL; intro _ _) | (apply irL_aV; intro _))
theorem k_copy (a0 : Int32) (a1 : Int32) (a2 : Int32) (a3 : Int32) (a4 : Int32) : PairK isI (fun g => zev mX11_copy 0 [.ref 3, .int a0, .int a1, .int a2, .int a3, .int a4] g) (fun g => zev mX12_copy 0 [.ref 250, .int a0, .int a1, .int a2, .int a3, .int a4] g) := pk_of (pl_c (p_copy a0 a1 a2 a3 a4)) (fun g => by
  show irI (zev mX11_copy 0 [.ref 3, .int a0, .int a1, .int a2, .int a3, .int a4] g)
  rw [uX11_copy_0]
  repeat' first | exact irI_n | exact irI_l _ _ | apply irI_c | (apply irI_aI; intro _ _) | (apply irI_aL; intro _ _) | (apply irI_aV; intro _))
theorem k_undo  : PairK isI (fun g => zev mX11_undo 0 [.ref 3] g) (fun g => zev mX12_undo 0 [.ref 250] g) := pk_of (pl_c p_undo) (fun g => by
  show irI (zev mX11_undo 0 [.ref 3] g)
  rw [uX11_undo_0]
  repeat' first | exact irI_n | exact irI_l _ _ | apply irI_c | (apply irI_aI; intro _ _) | (apply irI_aL; intro _ _) | (apply irI_aV; intro _))
theorem k_seed (a0 : Int32) : PairK isI (fun g => zev mX11_seed 0 [.ref 3, .int a0] g) (fun g => zev mX12_seed 0 [.ref 250, .int a0] g) := pk_of (pl_c (p_seed a0)) (fun g => by
  show irI (zev mX11_seed 0 [.ref 3, .int a0] g)
  rw [uX11_seed_0]
  repeat' first | exact irI_n | exact irI_l _ _ | apply irI_c | (apply irI_aI; intro _ _) | (apply irI_aL; intro _ _) | (apply irI_aV; intro _))
theorem k_count (a0 : Int32) : PairK isI (fun g => zev mX11_count 0 [.ref 3, .int a0] g) (fun g => zev mX12_count 0 [.ref 250, .int a0] g) := pk_of (pl_c (p_count a0)) (fun g => by
  show irI (zev mX11_count 0 [.ref 3, .int a0] g)
  rw [uX11_count_0]
  repeat' first | exact irI_n | exact irI_l _ _ | apply irI_c | (apply irI_aI; intro _ _) | (apply irI_aL; intro _ _) | (apply irI_aV; intro _))
/-! a turn of the law -/
def LSt3 (g : zIJ) (σ : zS) (t : Nat) : Prop := Wfs σ ∧ CI g σ t ∧ RI g σ
def LGo (g : zIJ) (t : Nat) (a3 : Int32) (r : Option zRes) : Prop := ∃ g3 σ', LSt3 g3 σ' (t + 2) ∧ g3.1 0 = g.1 0 ∧ r = zev mL_law 1690 [.ref 0, .ref 3, .ref 250, .int a3] g3
theorem ci_ref {g g' : zIJ} {σ : zS} {t : Nat} (h : CI g σ t) (f : zFr tR g g') : CI g' σ t := by
  obtain ⟨h0, n, X, Y, hc⟩ := h
  exact ⟨ci0_fr h0 (fr_ud f (fun a b q => by have := of_decide_eq_true q; omega)), n, X, Y, cache_fr hc (fun k j k1 k2 _ => f k j (decide_eq_false (by omega)))⟩
theorem two_v {k : Value → Prop} {c r : zIJ → Option zRes} (h : PairK k c r) {g : zIJ} {σ : zS} {t : Nat} (st : LSt3 g σ t) (ht : t ≤ 900000) : ∃ v g1 g3 σ', k v ∧ c g = some (some v, g1) ∧ g1.1 0 = g.1 0 ∧ r g1 = some (some v, g3) ∧ LSt3 g3 σ' (t + 2) ∧ g3.1 0 = g.1 0 := by
  obtain ⟨hw, hc, hr⟩ := st
  obtain ⟨v, σ', kv, w', ⟨g1, e1, f1, c1⟩, rr⟩ := h σ g t hw hc ht
  obtain ⟨g3, e3, f3, r3⟩ := rr g1 (ri_cls hr hw f1)
  have z1 : g1.1 0 = g.1 0 := funext fun j => (f1 0 j (decide_eq_false (by omega))).1
  have z3 : g3.1 0 = g1.1 0 := funext fun j => (f3 0 j (decide_eq_false (by omega))).1
  exact ⟨v, g1, g3, σ', kv, e1, z1, e3, ⟨w', ci_ref c1 f3, r3⟩, z3.trans z1⟩
theorem two_I {c r : zIJ → Option zRes} (h : PairK isI c r) {g : zIJ} {σ : zS} {t : Nat} (st : LSt3 g σ t) (ht : t ≤ 900000) : ∃ x g1 g3 σ', c g = some (some (.int x), g1) ∧ g1.1 0 = g.1 0 ∧ r g1 = some (some (.int x), g3) ∧ LSt3 g3 σ' (t + 2) ∧ g3.1 0 = g.1 0 := by
  obtain ⟨v, g1, g3, σ', ⟨x, ex⟩, r⟩ := two_v h st ht
  subst ex
  exact ⟨x, g1, g3, σ', r⟩
theorem two_L {c r : zIJ → Option zRes} (h : PairK isL c r) {g : zIJ} {σ : zS} {t : Nat} (st : LSt3 g σ t) (ht : t ≤ 900000) : ∃ x g1 g3 σ', c g = some (some (.long x), g1) ∧ g1.1 0 = g.1 0 ∧ r g1 = some (some (.long x), g3) ∧ LSt3 g3 σ' (t + 2) ∧ g3.1 0 = g.1 0 := by
  obtain ⟨v, g1, g3, σ', ⟨x, ex⟩, r⟩ := two_v h st ht
  subst ex
  exact ⟨x, g1, g3, σ', r⟩
theorem lgo_c {g : zIJ} {t : Nat} {a3 : Int32} {b : Bool} {x y : Option zRes} (hx : LGo g t a3 x) (hy : LGo g t a3 y) : LGo g t a3 (cond b x y) := by cases b; exact hy; exact hx
theorem lgo_f {g : zIJ} {t : Nat} {a3 : Int32} {x y : Option zRes} (h : LGo g t a3 y) : LGo g t a3 (cond false x y) := h
theorem lgo_t {g : zIJ} {t : Nat} {a3 : Int32} {x y : Option zRes} (h : LGo g t a3 x) : LGo g t a3 (cond true x y) := h
theorem lw_end {g : zIJ} {σ : zS} {t : Nat} {a3 : Int32} (st : LSt3 g σ t) : LGo g t a3 (zev mL_law 1690 [.ref 0, .ref 3, .ref 250, .int a3] g) := ⟨g, σ, ⟨st.1, ci_le st.2.1 (by omega), st.2.2⟩, rfl, rfl⟩
theorem lw_228 {g : zIJ} {σ : zS} {t : Nat} {a3 : Int32} (st : LSt3 g σ t) (ht : t ≤ 900000) (z1 : zin (a3 + 1) (g.1 0 5000).toNatClampNeg = true) (z2 : zin (a3 + 2) (g.1 0 5000).toNatClampNeg = true) (z3 : zin (a3 + 3) (g.1 0 5000).toNatClampNeg = true) (z4 : zin (a3 + 4) (g.1 0 5000).toNatClampNeg = true) (z5 : zin (a3 + 5) (g.1 0 5000).toNatClampNeg = true) : LGo g t a3 (zev mL_law 228 [.ref 0, .ref 3, .ref 250, .int a3] g) := by
  obtain ⟨x, g1, g3, σ', e1, e0, e2, st', e3⟩ := two_I (k_place ((g.1 0 ((a3 + 1).toNatClampNeg))) ((g.1 0 ((a3 + 2).toNatClampNeg)))) st ht
  refine ⟨g3, σ', st', e3, ?_⟩
  rw [uL_law_228, z1, z2, show zev mX11_place 0 [.ref 3, .int ((g.1 0 ((a3 + 1).toNatClampNeg))), .int ((g.1 0 ((a3 + 2).toNatClampNeg)))] g = _ from e1, zaI_some, e0, z1, z2, show zev mX12_place 0 [.ref 250, .int ((g.1 0 ((a3 + 1).toNatClampNeg))), .int ((g.1 0 ((a3 + 2).toNatClampNeg)))] g1 = _ from e2, zaI_some, decide_eq_true (rfl : x = x)]
  rfl
theorem lw_261 {g : zIJ} {σ : zS} {t : Nat} {a3 : Int32} (st : LSt3 g σ t) (ht : t ≤ 900000) (z1 : zin (a3 + 1) (g.1 0 5000).toNatClampNeg = true) (z2 : zin (a3 + 2) (g.1 0 5000).toNatClampNeg = true) (z3 : zin (a3 + 3) (g.1 0 5000).toNatClampNeg = true) (z4 : zin (a3 + 4) (g.1 0 5000).toNatClampNeg = true) (z5 : zin (a3 + 5) (g.1 0 5000).toNatClampNeg = true) : LGo g t a3 (zev mL_law 261 [.ref 0, .ref 3, .ref 250, .int a3] g) := by
  obtain ⟨x, g1, g3, σ', e1, e0, e2, st', e3⟩ := two_I k_drop st ht
  refine ⟨g3, σ', st', e3, ?_⟩
  rw [uL_law_261, show zev mX11_drop 0 [.ref 3] g = _ from e1, zaI_some, show zev mX12_drop 0 [.ref 250] g1 = _ from e2, zaI_some, decide_eq_true (rfl : x = x)]
  rfl
theorem lw_274 {g : zIJ} {σ : zS} {t : Nat} {a3 : Int32} (st : LSt3 g σ t) (ht : t ≤ 900000) (z1 : zin (a3 + 1) (g.1 0 5000).toNatClampNeg = true) (z2 : zin (a3 + 2) (g.1 0 5000).toNatClampNeg = true) (z3 : zin (a3 + 3) (g.1 0 5000).toNatClampNeg = true) (z4 : zin (a3 + 4) (g.1 0 5000).toNatClampNeg = true) (z5 : zin (a3 + 5) (g.1 0 5000).toNatClampNeg = true) : LGo g t a3 (zev mL_law 274 [.ref 0, .ref 3, .ref 250, .int a3] g) := by
  obtain ⟨x, g1, g3, σ', e1, e0, e2, st', e3⟩ := two_I (k_move ((g.1 0 ((a3 + 1).toNatClampNeg))) ((g.1 0 ((a3 + 2).toNatClampNeg))) ((g.1 0 ((a3 + 3).toNatClampNeg)))) st ht
  refine ⟨g3, σ', st', e3, ?_⟩
  rw [uL_law_274, z1, z2, z3, show zev mX11_move 0 [.ref 3, .int ((g.1 0 ((a3 + 1).toNatClampNeg))), .int ((g.1 0 ((a3 + 2).toNatClampNeg))), .int ((g.1 0 ((a3 + 3).toNatClampNeg)))] g = _ from e1, zaI_some, e0, z1, z2, z3, show zev mX12_move 0 [.ref 250, .int ((g.1 0 ((a3 + 1).toNatClampNeg))), .int ((g.1 0 ((a3 + 2).toNatClampNeg))), .int ((g.1 0 ((a3 + 3).toNatClampNeg)))] g1 = _ from e2, zaI_some, decide_eq_true (rfl : x = x)]
  rfl
theorem lw_317 {g : zIJ} {σ : zS} {t : Nat} {a3 : Int32} (st : LSt3 g σ t) (ht : t ≤ 900000) (z1 : zin (a3 + 1) (g.1 0 5000).toNatClampNeg = true) (z2 : zin (a3 + 2) (g.1 0 5000).toNatClampNeg = true) (z3 : zin (a3 + 3) (g.1 0 5000).toNatClampNeg = true) (z4 : zin (a3 + 4) (g.1 0 5000).toNatClampNeg = true) (z5 : zin (a3 + 5) (g.1 0 5000).toNatClampNeg = true) : LGo g t a3 (zev mL_law 317 [.ref 0, .ref 3, .ref 250, .int a3] g) := by
  obtain ⟨x, g1, g3, σ', e1, e0, e2, st', e3⟩ := two_I (k_at ((g.1 0 ((a3 + 1).toNatClampNeg))) ((g.1 0 ((a3 + 2).toNatClampNeg)))) st ht
  refine ⟨g3, σ', st', e3, ?_⟩
  rw [uL_law_317, z1, z2, show zev mX11_at 0 [.ref 3, .int ((g.1 0 ((a3 + 1).toNatClampNeg))), .int ((g.1 0 ((a3 + 2).toNatClampNeg)))] g = _ from e1, zaI_some, e0, z1, z2, show zev mX12_at 0 [.ref 250, .int ((g.1 0 ((a3 + 1).toNatClampNeg))), .int ((g.1 0 ((a3 + 2).toNatClampNeg)))] g1 = _ from e2, zaI_some, decide_eq_true (rfl : x = x)]
  rfl
theorem lw_350 {g : zIJ} {σ : zS} {t : Nat} {a3 : Int32} (st : LSt3 g σ t) (ht : t ≤ 900000) (z1 : zin (a3 + 1) (g.1 0 5000).toNatClampNeg = true) (z2 : zin (a3 + 2) (g.1 0 5000).toNatClampNeg = true) (z3 : zin (a3 + 3) (g.1 0 5000).toNatClampNeg = true) (z4 : zin (a3 + 4) (g.1 0 5000).toNatClampNeg = true) (z5 : zin (a3 + 5) (g.1 0 5000).toNatClampNeg = true) : LGo g t a3 (zev mL_law 350 [.ref 0, .ref 3, .ref 250, .int a3] g) := by
  obtain ⟨x, g1, g3, σ', e1, e0, e2, st', e3⟩ := two_I (k_mark ((g.1 0 ((a3 + 1).toNatClampNeg))) ((g.1 0 ((a3 + 2).toNatClampNeg))) ((g.1 0 ((a3 + 3).toNatClampNeg)))) st ht
  refine ⟨g3, σ', st', e3, ?_⟩
  rw [uL_law_350, z1, z2, z3, show zev mX11_mark 0 [.ref 3, .int ((g.1 0 ((a3 + 1).toNatClampNeg))), .int ((g.1 0 ((a3 + 2).toNatClampNeg))), .int ((g.1 0 ((a3 + 3).toNatClampNeg)))] g = _ from e1, zaI_some, e0, z1, z2, z3, show zev mX12_mark 0 [.ref 250, .int ((g.1 0 ((a3 + 1).toNatClampNeg))), .int ((g.1 0 ((a3 + 2).toNatClampNeg))), .int ((g.1 0 ((a3 + 3).toNatClampNeg)))] g1 = _ from e2, zaI_some, decide_eq_true (rfl : x = x)]
  rfl
theorem lw_393 {g : zIJ} {σ : zS} {t : Nat} {a3 : Int32} (st : LSt3 g σ t) (ht : t ≤ 900000) (z1 : zin (a3 + 1) (g.1 0 5000).toNatClampNeg = true) (z2 : zin (a3 + 2) (g.1 0 5000).toNatClampNeg = true) (z3 : zin (a3 + 3) (g.1 0 5000).toNatClampNeg = true) (z4 : zin (a3 + 4) (g.1 0 5000).toNatClampNeg = true) (z5 : zin (a3 + 5) (g.1 0 5000).toNatClampNeg = true) : LGo g t a3 (zev mL_law 393 [.ref 0, .ref 3, .ref 250, .int a3] g) := by
  obtain ⟨x, g1, g3, σ', e1, e0, e2, st', e3⟩ := two_I (k_markOf ((g.1 0 ((a3 + 1).toNatClampNeg))) ((g.1 0 ((a3 + 2).toNatClampNeg)))) st ht
  refine ⟨g3, σ', st', e3, ?_⟩
  rw [uL_law_393, z1, z2, show zev mX11_markOf 0 [.ref 3, .int ((g.1 0 ((a3 + 1).toNatClampNeg))), .int ((g.1 0 ((a3 + 2).toNatClampNeg)))] g = _ from e1, zaI_some, e0, z1, z2, show zev mX12_markOf 0 [.ref 250, .int ((g.1 0 ((a3 + 1).toNatClampNeg))), .int ((g.1 0 ((a3 + 2).toNatClampNeg)))] g1 = _ from e2, zaI_some, decide_eq_true (rfl : x = x)]
  rfl
theorem lw_426 {g : zIJ} {σ : zS} {t : Nat} {a3 : Int32} (st : LSt3 g σ t) (ht : t ≤ 900000) (z1 : zin (a3 + 1) (g.1 0 5000).toNatClampNeg = true) (z2 : zin (a3 + 2) (g.1 0 5000).toNatClampNeg = true) (z3 : zin (a3 + 3) (g.1 0 5000).toNatClampNeg = true) (z4 : zin (a3 + 4) (g.1 0 5000).toNatClampNeg = true) (z5 : zin (a3 + 5) (g.1 0 5000).toNatClampNeg = true) : LGo g t a3 (zev mL_law 426 [.ref 0, .ref 3, .ref 250, .int a3] g) := by
  obtain ⟨x, g1, g3, σ', e1, e0, e2, st', e3⟩ := two_I (k_turn ((g.1 0 ((a3 + 1).toNatClampNeg))) ((g.1 0 ((a3 + 2).toNatClampNeg))) ((g.1 0 ((a3 + 3).toNatClampNeg)))) st ht
  refine ⟨g3, σ', st', e3, ?_⟩
  rw [uL_law_426, z1, z2, z3, show zev mX11_turn 0 [.ref 3, .int ((g.1 0 ((a3 + 1).toNatClampNeg))), .int ((g.1 0 ((a3 + 2).toNatClampNeg))), .int ((g.1 0 ((a3 + 3).toNatClampNeg)))] g = _ from e1, zaI_some, e0, z1, z2, z3, show zev mX12_turn 0 [.ref 250, .int ((g.1 0 ((a3 + 1).toNatClampNeg))), .int ((g.1 0 ((a3 + 2).toNatClampNeg))), .int ((g.1 0 ((a3 + 3).toNatClampNeg)))] g1 = _ from e2, zaI_some, decide_eq_true (rfl : x = x)]
  rfl
theorem lw_469 {g : zIJ} {σ : zS} {t : Nat} {a3 : Int32} (st : LSt3 g σ t) (ht : t ≤ 900000) (z1 : zin (a3 + 1) (g.1 0 5000).toNatClampNeg = true) (z2 : zin (a3 + 2) (g.1 0 5000).toNatClampNeg = true) (z3 : zin (a3 + 3) (g.1 0 5000).toNatClampNeg = true) (z4 : zin (a3 + 4) (g.1 0 5000).toNatClampNeg = true) (z5 : zin (a3 + 5) (g.1 0 5000).toNatClampNeg = true) : LGo g t a3 (zev mL_law 469 [.ref 0, .ref 3, .ref 250, .int a3] g) := by
  obtain ⟨x, g1, g3, σ', e1, e0, e2, st', e3⟩ := two_I (k_crosses ((g.1 0 ((a3 + 1).toNatClampNeg))) ((g.1 0 ((a3 + 2).toNatClampNeg))) ((g.1 0 ((a3 + 3).toNatClampNeg))) ((g.1 0 ((a3 + 4).toNatClampNeg)))) st ht
  refine ⟨g3, σ', st', e3, ?_⟩
  rw [uL_law_469, z1, z2, z3, z4, show zev mX11_crosses 0 [.ref 3, .int ((g.1 0 ((a3 + 1).toNatClampNeg))), .int ((g.1 0 ((a3 + 2).toNatClampNeg))), .int ((g.1 0 ((a3 + 3).toNatClampNeg))), .int ((g.1 0 ((a3 + 4).toNatClampNeg)))] g = _ from e1, zaI_some, e0, z1, z2, z3, z4, show zev mX12_crosses 0 [.ref 250, .int ((g.1 0 ((a3 + 1).toNatClampNeg))), .int ((g.1 0 ((a3 + 2).toNatClampNeg))), .int ((g.1 0 ((a3 + 3).toNatClampNeg))), .int ((g.1 0 ((a3 + 4).toNatClampNeg)))] g1 = _ from e2, zaI_some, decide_eq_true (rfl : x = x)]
  rfl
theorem lw_522 {g : zIJ} {σ : zS} {t : Nat} {a3 : Int32} (st : LSt3 g σ t) (ht : t ≤ 900000) (z1 : zin (a3 + 1) (g.1 0 5000).toNatClampNeg = true) (z2 : zin (a3 + 2) (g.1 0 5000).toNatClampNeg = true) (z3 : zin (a3 + 3) (g.1 0 5000).toNatClampNeg = true) (z4 : zin (a3 + 4) (g.1 0 5000).toNatClampNeg = true) (z5 : zin (a3 + 5) (g.1 0 5000).toNatClampNeg = true) : LGo g t a3 (zev mL_law 522 [.ref 0, .ref 3, .ref 250, .int a3] g) := by
  obtain ⟨x, g1, g3, σ', e1, e0, e2, st', e3⟩ := two_I (k_hull ((g.1 0 ((a3 + 1).toNatClampNeg)))) st ht
  refine ⟨g3, σ', st', e3, ?_⟩
  rw [uL_law_522, z1, show zev mX11_hull 0 [.ref 3, .int ((g.1 0 ((a3 + 1).toNatClampNeg)))] g = _ from e1, zaI_some, e0, z1, show zev mX12_hull 0 [.ref 250, .int ((g.1 0 ((a3 + 1).toNatClampNeg)))] g1 = _ from e2, zaI_some, decide_eq_true (rfl : x = x)]
  rfl
theorem lw_545 {g : zIJ} {σ : zS} {t : Nat} {a3 : Int32} (st : LSt3 g σ t) (ht : t ≤ 900000) (z1 : zin (a3 + 1) (g.1 0 5000).toNatClampNeg = true) (z2 : zin (a3 + 2) (g.1 0 5000).toNatClampNeg = true) (z3 : zin (a3 + 3) (g.1 0 5000).toNatClampNeg = true) (z4 : zin (a3 + 4) (g.1 0 5000).toNatClampNeg = true) (z5 : zin (a3 + 5) (g.1 0 5000).toNatClampNeg = true) : LGo g t a3 (zev mL_law 545 [.ref 0, .ref 3, .ref 250, .int a3] g) := by
  obtain ⟨x, g1, g3, σ', e1, e0, e2, st', e3⟩ := two_I k_nets st ht
  refine ⟨g3, σ', st', e3, ?_⟩
  rw [uL_law_545, show zev mX11_nets 0 [.ref 3] g = _ from e1, zaI_some, show zev mX12_nets 0 [.ref 250] g1 = _ from e2, zaI_some, decide_eq_true (rfl : x = x)]
  rfl
theorem lw_558 {g : zIJ} {σ : zS} {t : Nat} {a3 : Int32} (st : LSt3 g σ t) (ht : t ≤ 900000) (z1 : zin (a3 + 1) (g.1 0 5000).toNatClampNeg = true) (z2 : zin (a3 + 2) (g.1 0 5000).toNatClampNeg = true) (z3 : zin (a3 + 3) (g.1 0 5000).toNatClampNeg = true) (z4 : zin (a3 + 4) (g.1 0 5000).toNatClampNeg = true) (z5 : zin (a3 + 5) (g.1 0 5000).toNatClampNeg = true) : LGo g t a3 (zev mL_law 558 [.ref 0, .ref 3, .ref 250, .int a3] g) := by
  obtain ⟨x, g1, g3, σ', e1, e0, e2, st', e3⟩ := two_L (k_net ((g.1 0 ((a3 + 1).toNatClampNeg)))) st ht
  refine ⟨g3, σ', st', e3, ?_⟩
  rw [uL_law_558, z1, show zev mX11_net 0 [.ref 3, .int ((g.1 0 ((a3 + 1).toNatClampNeg)))] g = _ from e1, zaL_some, e0, z1, show zev mX12_net 0 [.ref 250, .int ((g.1 0 ((a3 + 1).toNatClampNeg)))] g1 = _ from e2, zaL_some, cmp_eq, decide_eq_true (rfl : x = x)]
  rfl
theorem lw_582 {g : zIJ} {σ : zS} {t : Nat} {a3 : Int32} (st : LSt3 g σ t) (ht : t ≤ 900000) (z1 : zin (a3 + 1) (g.1 0 5000).toNatClampNeg = true) (z2 : zin (a3 + 2) (g.1 0 5000).toNatClampNeg = true) (z3 : zin (a3 + 3) (g.1 0 5000).toNatClampNeg = true) (z4 : zin (a3 + 4) (g.1 0 5000).toNatClampNeg = true) (z5 : zin (a3 + 5) (g.1 0 5000).toNatClampNeg = true) : LGo g t a3 (zev mL_law 582 [.ref 0, .ref 3, .ref 250, .int a3] g) := by
  obtain ⟨x, g1, g3, σ', e1, e0, e2, st', e3⟩ := two_I (k_rank (((((g.1 0 ((a3 + 1).toNatClampNeg)).toInt64) <<< ((32 : Int32).toInt64 &&& 63)) ||| (((g.1 0 ((a3 + 2).toNatClampNeg)).toInt64) &&& 4294967295)))) st ht
  refine ⟨g3, σ', st', e3, ?_⟩
  rw [uL_law_582, z1, z2, show zev mX11_rank 0 [.ref 3, .long (((((g.1 0 ((a3 + 1).toNatClampNeg)).toInt64) <<< ((32 : Int32).toInt64 &&& 63)) ||| (((g.1 0 ((a3 + 2).toNatClampNeg)).toInt64) &&& 4294967295)))] g = _ from e1, zaI_some, e0, z1, z2, show zev mX12_rank 0 [.ref 250, .long (((((g.1 0 ((a3 + 1).toNatClampNeg)).toInt64) <<< ((32 : Int32).toInt64 &&& 63)) ||| (((g.1 0 ((a3 + 2).toNatClampNeg)).toInt64) &&& 4294967295)))] g1 = _ from e2, zaI_some, decide_eq_true (rfl : x = x)]
  rfl
theorem lw_635 {g : zIJ} {σ : zS} {t : Nat} {a3 : Int32} (st : LSt3 g σ t) (ht : t ≤ 900000) (z1 : zin (a3 + 1) (g.1 0 5000).toNatClampNeg = true) (z2 : zin (a3 + 2) (g.1 0 5000).toNatClampNeg = true) (z3 : zin (a3 + 3) (g.1 0 5000).toNatClampNeg = true) (z4 : zin (a3 + 4) (g.1 0 5000).toNatClampNeg = true) (z5 : zin (a3 + 5) (g.1 0 5000).toNatClampNeg = true) : LGo g t a3 (zev mL_law 635 [.ref 0, .ref 3, .ref 250, .int a3] g) := by
  obtain ⟨x, g1, g3, σ', e1, e0, e2, st', e3⟩ := two_I (k_with ((g.1 0 ((a3 + 1).toNatClampNeg))) ((g.1 0 ((a3 + 2).toNatClampNeg)))) st ht
  refine ⟨g3, σ', st', e3, ?_⟩
  rw [uL_law_635, z1, z2, show zev mX11_with 0 [.ref 3, .int ((g.1 0 ((a3 + 1).toNatClampNeg))), .int ((g.1 0 ((a3 + 2).toNatClampNeg)))] g = _ from e1, zaI_some, e0, z1, z2, show zev mX12_with 0 [.ref 250, .int ((g.1 0 ((a3 + 1).toNatClampNeg))), .int ((g.1 0 ((a3 + 2).toNatClampNeg)))] g1 = _ from e2, zaI_some, decide_eq_true (rfl : x = x)]
  rfl
theorem lw_668 {g : zIJ} {σ : zS} {t : Nat} {a3 : Int32} (st : LSt3 g σ t) (ht : t ≤ 900000) (z1 : zin (a3 + 1) (g.1 0 5000).toNatClampNeg = true) (z2 : zin (a3 + 2) (g.1 0 5000).toNatClampNeg = true) (z3 : zin (a3 + 3) (g.1 0 5000).toNatClampNeg = true) (z4 : zin (a3 + 4) (g.1 0 5000).toNatClampNeg = true) (z5 : zin (a3 + 5) (g.1 0 5000).toNatClampNeg = true) : LGo g t a3 (zev mL_law 668 [.ref 0, .ref 3, .ref 250, .int a3] g) := by
  obtain ⟨x, g1, g3, σ', e1, e0, e2, st', e3⟩ := two_L (k_always ((g.1 0 ((a3 + 1).toNatClampNeg)))) st ht
  refine ⟨g3, σ', st', e3, ?_⟩
  rw [uL_law_668, z1, show zev mX11_always 0 [.ref 3, .int ((g.1 0 ((a3 + 1).toNatClampNeg)))] g = _ from e1, zaL_some, e0, z1, show zev mX12_always 0 [.ref 250, .int ((g.1 0 ((a3 + 1).toNatClampNeg)))] g1 = _ from e2, zaL_some, cmp_eq, decide_eq_true (rfl : x = x)]
  rfl
theorem lw_692 {g : zIJ} {σ : zS} {t : Nat} {a3 : Int32} (st : LSt3 g σ t) (ht : t ≤ 900000) (z1 : zin (a3 + 1) (g.1 0 5000).toNatClampNeg = true) (z2 : zin (a3 + 2) (g.1 0 5000).toNatClampNeg = true) (z3 : zin (a3 + 3) (g.1 0 5000).toNatClampNeg = true) (z4 : zin (a3 + 4) (g.1 0 5000).toNatClampNeg = true) (z5 : zin (a3 + 5) (g.1 0 5000).toNatClampNeg = true) : LGo g t a3 (zev mL_law 692 [.ref 0, .ref 3, .ref 250, .int a3] g) := by
  obtain ⟨x, g1, g3, σ', e1, e0, e2, st', e3⟩ := two_I k_draw st ht
  refine ⟨g3, σ', st', e3, ?_⟩
  rw [uL_law_692, show zev mX11_draw 0 [.ref 3] g = _ from e1, zaI_some, show zev mX12_draw 0 [.ref 250] g1 = _ from e2, zaI_some, decide_eq_true (rfl : x = x)]
  rfl
theorem lw_705 {g : zIJ} {σ : zS} {t : Nat} {a3 : Int32} (st : LSt3 g σ t) (ht : t ≤ 900000) (z1 : zin (a3 + 1) (g.1 0 5000).toNatClampNeg = true) (z2 : zin (a3 + 2) (g.1 0 5000).toNatClampNeg = true) (z3 : zin (a3 + 3) (g.1 0 5000).toNatClampNeg = true) (z4 : zin (a3 + 4) (g.1 0 5000).toNatClampNeg = true) (z5 : zin (a3 + 5) (g.1 0 5000).toNatClampNeg = true) : LGo g t a3 (zev mL_law 705 [.ref 0, .ref 3, .ref 250, .int a3] g) := by
  obtain ⟨x, g1, g3, σ', e1, e0, e2, st', e3⟩ := two_I (k_fan ((g.1 0 ((a3 + 1).toNatClampNeg))) ((g.1 0 ((a3 + 2).toNatClampNeg)))) st ht
  refine ⟨g3, σ', st', e3, ?_⟩
  rw [uL_law_705, z1, z2, show zev mX11_fan 0 [.ref 3, .int ((g.1 0 ((a3 + 1).toNatClampNeg))), .int ((g.1 0 ((a3 + 2).toNatClampNeg)))] g = _ from e1, zaI_some, e0, z1, z2, show zev mX12_fan 0 [.ref 250, .int ((g.1 0 ((a3 + 1).toNatClampNeg))), .int ((g.1 0 ((a3 + 2).toNatClampNeg)))] g1 = _ from e2, zaI_some, decide_eq_true (rfl : x = x)]
  rfl
theorem lw_738 {g : zIJ} {σ : zS} {t : Nat} {a3 : Int32} (st : LSt3 g σ t) (ht : t ≤ 900000) (z1 : zin (a3 + 1) (g.1 0 5000).toNatClampNeg = true) (z2 : zin (a3 + 2) (g.1 0 5000).toNatClampNeg = true) (z3 : zin (a3 + 3) (g.1 0 5000).toNatClampNeg = true) (z4 : zin (a3 + 4) (g.1 0 5000).toNatClampNeg = true) (z5 : zin (a3 + 5) (g.1 0 5000).toNatClampNeg = true) : LGo g t a3 (zev mL_law 738 [.ref 0, .ref 3, .ref 250, .int a3] g) := by
  obtain ⟨x, g1, g3, σ', e1, e0, e2, st', e3⟩ := two_L (k_flips ((g.1 0 ((a3 + 1).toNatClampNeg)))) st ht
  refine ⟨g3, σ', st', e3, ?_⟩
  rw [uL_law_738, z1, show zev mX11_flips 0 [.ref 3, .int ((g.1 0 ((a3 + 1).toNatClampNeg)))] g = _ from e1, zaL_some, e0, z1, show zev mX12_flips 0 [.ref 250, .int ((g.1 0 ((a3 + 1).toNatClampNeg)))] g1 = _ from e2, zaL_some, cmp_eq, decide_eq_true (rfl : x = x)]
  rfl
theorem lw_762 {g : zIJ} {σ : zS} {t : Nat} {a3 : Int32} (st : LSt3 g σ t) (ht : t ≤ 900000) (z1 : zin (a3 + 1) (g.1 0 5000).toNatClampNeg = true) (z2 : zin (a3 + 2) (g.1 0 5000).toNatClampNeg = true) (z3 : zin (a3 + 3) (g.1 0 5000).toNatClampNeg = true) (z4 : zin (a3 + 4) (g.1 0 5000).toNatClampNeg = true) (z5 : zin (a3 + 5) (g.1 0 5000).toNatClampNeg = true) : LGo g t a3 (zev mL_law 762 [.ref 0, .ref 3, .ref 250, .int a3] g) := by
  obtain ⟨x, g1, g3, σ', e1, e0, e2, st', e3⟩ := two_I (k_flip ((g.1 0 ((a3 + 1).toNatClampNeg))) ((g.1 0 ((a3 + 2).toNatClampNeg))) ((g.1 0 ((a3 + 3).toNatClampNeg)))) st ht
  refine ⟨g3, σ', st', e3, ?_⟩
  rw [uL_law_762, z1, z2, z3, show zev mX11_flip 0 [.ref 3, .int ((g.1 0 ((a3 + 1).toNatClampNeg))), .int ((g.1 0 ((a3 + 2).toNatClampNeg))), .int ((g.1 0 ((a3 + 3).toNatClampNeg)))] g = _ from e1, zaI_some, e0, z1, z2, z3, show zev mX12_flip 0 [.ref 250, .int ((g.1 0 ((a3 + 1).toNatClampNeg))), .int ((g.1 0 ((a3 + 2).toNatClampNeg))), .int ((g.1 0 ((a3 + 3).toNatClampNeg)))] g1 = _ from e2, zaI_some, decide_eq_true (rfl : x = x)]
  rfl
theorem lw_805 {g : zIJ} {σ : zS} {t : Nat} {a3 : Int32} (st : LSt3 g σ t) (ht : t ≤ 900000) (z1 : zin (a3 + 1) (g.1 0 5000).toNatClampNeg = true) (z2 : zin (a3 + 2) (g.1 0 5000).toNatClampNeg = true) (z3 : zin (a3 + 3) (g.1 0 5000).toNatClampNeg = true) (z4 : zin (a3 + 4) (g.1 0 5000).toNatClampNeg = true) (z5 : zin (a3 + 5) (g.1 0 5000).toNatClampNeg = true) : LGo g t a3 (zev mL_law 805 [.ref 0, .ref 3, .ref 250, .int a3] g) := by
  obtain ⟨x, g1, g3, σ', e1, e0, e2, st', e3⟩ := two_I (k_apart ((g.1 0 ((a3 + 1).toNatClampNeg))) ((g.1 0 ((a3 + 2).toNatClampNeg)))) st ht
  refine ⟨g3, σ', st', e3, ?_⟩
  rw [uL_law_805, z1, z2, show zev mX11_apart 0 [.ref 3, .int ((g.1 0 ((a3 + 1).toNatClampNeg))), .int ((g.1 0 ((a3 + 2).toNatClampNeg)))] g = _ from e1, zaI_some, e0, z1, z2, show zev mX12_apart 0 [.ref 250, .int ((g.1 0 ((a3 + 1).toNatClampNeg))), .int ((g.1 0 ((a3 + 2).toNatClampNeg)))] g1 = _ from e2, zaI_some, decide_eq_true (rfl : x = x)]
  rfl
theorem lw_838 {g : zIJ} {σ : zS} {t : Nat} {a3 : Int32} (st : LSt3 g σ t) (ht : t ≤ 900000) (z1 : zin (a3 + 1) (g.1 0 5000).toNatClampNeg = true) (z2 : zin (a3 + 2) (g.1 0 5000).toNatClampNeg = true) (z3 : zin (a3 + 3) (g.1 0 5000).toNatClampNeg = true) (z4 : zin (a3 + 4) (g.1 0 5000).toNatClampNeg = true) (z5 : zin (a3 + 5) (g.1 0 5000).toNatClampNeg = true) : LGo g t a3 (zev mL_law 838 [.ref 0, .ref 3, .ref 250, .int a3] g) := by
  obtain ⟨x, g1, g3, σ', e1, e0, e2, st', e3⟩ := two_I (k_path ((g.1 0 ((a3 + 1).toNatClampNeg))) ((g.1 0 ((a3 + 2).toNatClampNeg)))) st ht
  refine ⟨g3, σ', st', e3, ?_⟩
  rw [uL_law_838, z1, z2, show zev mX11_path 0 [.ref 3, .int ((g.1 0 ((a3 + 1).toNatClampNeg))), .int ((g.1 0 ((a3 + 2).toNatClampNeg)))] g = _ from e1, zaI_some, e0, z1, z2, show zev mX12_path 0 [.ref 250, .int ((g.1 0 ((a3 + 1).toNatClampNeg))), .int ((g.1 0 ((a3 + 2).toNatClampNeg)))] g1 = _ from e2, zaI_some, decide_eq_true (rfl : x = x)]
  rfl
theorem lw_871 {g : zIJ} {σ : zS} {t : Nat} {a3 : Int32} (st : LSt3 g σ t) (ht : t ≤ 900000) (z1 : zin (a3 + 1) (g.1 0 5000).toNatClampNeg = true) (z2 : zin (a3 + 2) (g.1 0 5000).toNatClampNeg = true) (z3 : zin (a3 + 3) (g.1 0 5000).toNatClampNeg = true) (z4 : zin (a3 + 4) (g.1 0 5000).toNatClampNeg = true) (z5 : zin (a3 + 5) (g.1 0 5000).toNatClampNeg = true) : LGo g t a3 (zev mL_law 871 [.ref 0, .ref 3, .ref 250, .int a3] g) := by
  obtain ⟨x, g1, g3, σ', e1, e0, e2, st', e3⟩ := two_I (k_advance ((g.1 0 ((a3 + 1).toNatClampNeg))) ((g.1 0 ((a3 + 2).toNatClampNeg))) ((g.1 0 ((a3 + 3).toNatClampNeg)))) st ht
  refine ⟨g3, σ', st', e3, ?_⟩
  rw [uL_law_871, z1, z2, z3, show zev mX11_advance 0 [.ref 3, .int ((g.1 0 ((a3 + 1).toNatClampNeg))), .int ((g.1 0 ((a3 + 2).toNatClampNeg))), .int ((g.1 0 ((a3 + 3).toNatClampNeg)))] g = _ from e1, zaI_some, e0, z1, z2, z3, show zev mX12_advance 0 [.ref 250, .int ((g.1 0 ((a3 + 1).toNatClampNeg))), .int ((g.1 0 ((a3 + 2).toNatClampNeg))), .int ((g.1 0 ((a3 + 3).toNatClampNeg)))] g1 = _ from e2, zaI_some, decide_eq_true (rfl : x = x)]
  rfl
theorem lw_914 {g : zIJ} {σ : zS} {t : Nat} {a3 : Int32} (st : LSt3 g σ t) (ht : t ≤ 900000) (z1 : zin (a3 + 1) (g.1 0 5000).toNatClampNeg = true) (z2 : zin (a3 + 2) (g.1 0 5000).toNatClampNeg = true) (z3 : zin (a3 + 3) (g.1 0 5000).toNatClampNeg = true) (z4 : zin (a3 + 4) (g.1 0 5000).toNatClampNeg = true) (z5 : zin (a3 + 5) (g.1 0 5000).toNatClampNeg = true) : LGo g t a3 (zev mL_law 914 [.ref 0, .ref 3, .ref 250, .int a3] g) := by
  obtain ⟨x, g1, g3, σ', e1, e0, e2, st', e3⟩ := two_I k_ways st ht
  refine ⟨g3, σ', st', e3, ?_⟩
  rw [uL_law_914, show zev mX11_ways 0 [.ref 3] g = _ from e1, zaI_some, show zev mX12_ways 0 [.ref 250] g1 = _ from e2, zaI_some, decide_eq_true (rfl : x = x)]
  rfl
theorem lw_927 {g : zIJ} {σ : zS} {t : Nat} {a3 : Int32} (st : LSt3 g σ t) (ht : t ≤ 900000) (z1 : zin (a3 + 1) (g.1 0 5000).toNatClampNeg = true) (z2 : zin (a3 + 2) (g.1 0 5000).toNatClampNeg = true) (z3 : zin (a3 + 3) (g.1 0 5000).toNatClampNeg = true) (z4 : zin (a3 + 4) (g.1 0 5000).toNatClampNeg = true) (z5 : zin (a3 + 5) (g.1 0 5000).toNatClampNeg = true) : LGo g t a3 (zev mL_law 927 [.ref 0, .ref 3, .ref 250, .int a3] g) := by
  obtain ⟨x, g1, g3, σ', e1, e0, e2, st', e3⟩ := two_I (k_step ((g.1 0 ((a3 + 1).toNatClampNeg))) ((g.1 0 ((a3 + 2).toNatClampNeg)))) st ht
  refine ⟨g3, σ', st', e3, ?_⟩
  rw [uL_law_927, z1, z2, show zev mX11_step 0 [.ref 3, .int ((g.1 0 ((a3 + 1).toNatClampNeg))), .int ((g.1 0 ((a3 + 2).toNatClampNeg)))] g = _ from e1, zaI_some, e0, z1, z2, show zev mX12_step 0 [.ref 250, .int ((g.1 0 ((a3 + 1).toNatClampNeg))), .int ((g.1 0 ((a3 + 2).toNatClampNeg)))] g1 = _ from e2, zaI_some, decide_eq_true (rfl : x = x)]
  rfl
theorem lw_960 {g : zIJ} {σ : zS} {t : Nat} {a3 : Int32} (st : LSt3 g σ t) (ht : t ≤ 900000) (z1 : zin (a3 + 1) (g.1 0 5000).toNatClampNeg = true) (z2 : zin (a3 + 2) (g.1 0 5000).toNatClampNeg = true) (z3 : zin (a3 + 3) (g.1 0 5000).toNatClampNeg = true) (z4 : zin (a3 + 4) (g.1 0 5000).toNatClampNeg = true) (z5 : zin (a3 + 5) (g.1 0 5000).toNatClampNeg = true) : LGo g t a3 (zev mL_law 960 [.ref 0, .ref 3, .ref 250, .int a3] g) := by
  obtain ⟨x, g1, g3, σ', e1, e0, e2, st', e3⟩ := two_I (k_stepOf ((g.1 0 ((a3 + 1).toNatClampNeg))) ((g.1 0 ((a3 + 2).toNatClampNeg)))) st ht
  refine ⟨g3, σ', st', e3, ?_⟩
  rw [uL_law_960, z1, z2, show zev mX11_stepOf 0 [.ref 3, .int ((g.1 0 ((a3 + 1).toNatClampNeg))), .int ((g.1 0 ((a3 + 2).toNatClampNeg)))] g = _ from e1, zaI_some, e0, z1, z2, show zev mX12_stepOf 0 [.ref 250, .int ((g.1 0 ((a3 + 1).toNatClampNeg))), .int ((g.1 0 ((a3 + 2).toNatClampNeg)))] g1 = _ from e2, zaI_some, decide_eq_true (rfl : x = x)]
  rfl
theorem lw_993 {g : zIJ} {σ : zS} {t : Nat} {a3 : Int32} (st : LSt3 g σ t) (ht : t ≤ 900000) (z1 : zin (a3 + 1) (g.1 0 5000).toNatClampNeg = true) (z2 : zin (a3 + 2) (g.1 0 5000).toNatClampNeg = true) (z3 : zin (a3 + 3) (g.1 0 5000).toNatClampNeg = true) (z4 : zin (a3 + 4) (g.1 0 5000).toNatClampNeg = true) (z5 : zin (a3 + 5) (g.1 0 5000).toNatClampNeg = true) : LGo g t a3 (zev mL_law 993 [.ref 0, .ref 3, .ref 250, .int a3] g) := by
  obtain ⟨x, g1, g3, σ', e1, e0, e2, st', e3⟩ := two_I k_clear st ht
  refine ⟨g3, σ', st', e3, ?_⟩
  rw [uL_law_993, show zev mX11_clear 0 [.ref 3] g = _ from e1, zaI_some, show zev mX12_clear 0 [.ref 250] g1 = _ from e2, zaI_some, decide_eq_true (rfl : x = x)]
  rfl
theorem lw_1006 {g : zIJ} {σ : zS} {t : Nat} {a3 : Int32} (st : LSt3 g σ t) (ht : t ≤ 900000) (z1 : zin (a3 + 1) (g.1 0 5000).toNatClampNeg = true) (z2 : zin (a3 + 2) (g.1 0 5000).toNatClampNeg = true) (z3 : zin (a3 + 3) (g.1 0 5000).toNatClampNeg = true) (z4 : zin (a3 + 4) (g.1 0 5000).toNatClampNeg = true) (z5 : zin (a3 + 5) (g.1 0 5000).toNatClampNeg = true) : LGo g t a3 (zev mL_law 1006 [.ref 0, .ref 3, .ref 250, .int a3] g) := by
  obtain ⟨x, g1, g3, σ', e1, e0, e2, st', e3⟩ := two_L (k_chain (((((g.1 0 ((a3 + 1).toNatClampNeg)).toInt64) <<< ((32 : Int32).toInt64 &&& 63)) ||| (((g.1 0 ((a3 + 2).toNatClampNeg)).toInt64) &&& 4294967295)))) st ht
  refine ⟨g3, σ', st', e3, ?_⟩
  rw [uL_law_1006, z1, z2, show zev mX11_chain 0 [.ref 3, .long (((((g.1 0 ((a3 + 1).toNatClampNeg)).toInt64) <<< ((32 : Int32).toInt64 &&& 63)) ||| (((g.1 0 ((a3 + 2).toNatClampNeg)).toInt64) &&& 4294967295)))] g = _ from e1, zaL_some, e0, z1, z2, show zev mX12_chain 0 [.ref 250, .long (((((g.1 0 ((a3 + 1).toNatClampNeg)).toInt64) <<< ((32 : Int32).toInt64 &&& 63)) ||| (((g.1 0 ((a3 + 2).toNatClampNeg)).toInt64) &&& 4294967295)))] g1 = _ from e2, zaL_some, cmp_eq, decide_eq_true (rfl : x = x)]
  rfl
theorem lw_1060 {g : zIJ} {σ : zS} {t : Nat} {a3 : Int32} (st : LSt3 g σ t) (ht : t ≤ 900000) (z1 : zin (a3 + 1) (g.1 0 5000).toNatClampNeg = true) (z2 : zin (a3 + 2) (g.1 0 5000).toNatClampNeg = true) (z3 : zin (a3 + 3) (g.1 0 5000).toNatClampNeg = true) (z4 : zin (a3 + 4) (g.1 0 5000).toNatClampNeg = true) (z5 : zin (a3 + 5) (g.1 0 5000).toNatClampNeg = true) : LGo g t a3 (zev mL_law 1060 [.ref 0, .ref 3, .ref 250, .int a3] g) := by
  obtain ⟨x, g1, g3, σ', e1, e0, e2, st', e3⟩ := two_L (k_ofEdge ((g.1 0 ((a3 + 1).toNatClampNeg))) ((g.1 0 ((a3 + 2).toNatClampNeg))) ((g.1 0 ((a3 + 3).toNatClampNeg)))) st ht
  refine ⟨g3, σ', st', e3, ?_⟩
  rw [uL_law_1060, z1, z2, z3, show zev mX11_ofEdge 0 [.ref 3, .int ((g.1 0 ((a3 + 1).toNatClampNeg))), .int ((g.1 0 ((a3 + 2).toNatClampNeg))), .int ((g.1 0 ((a3 + 3).toNatClampNeg)))] g = _ from e1, zaL_some, e0, z1, z2, z3, show zev mX12_ofEdge 0 [.ref 250, .int ((g.1 0 ((a3 + 1).toNatClampNeg))), .int ((g.1 0 ((a3 + 2).toNatClampNeg))), .int ((g.1 0 ((a3 + 3).toNatClampNeg)))] g1 = _ from e2, zaL_some, cmp_eq, decide_eq_true (rfl : x = x)]
  rfl
theorem lw_1104 {g : zIJ} {σ : zS} {t : Nat} {a3 : Int32} (st : LSt3 g σ t) (ht : t ≤ 900000) (z1 : zin (a3 + 1) (g.1 0 5000).toNatClampNeg = true) (z2 : zin (a3 + 2) (g.1 0 5000).toNatClampNeg = true) (z3 : zin (a3 + 3) (g.1 0 5000).toNatClampNeg = true) (z4 : zin (a3 + 4) (g.1 0 5000).toNatClampNeg = true) (z5 : zin (a3 + 5) (g.1 0 5000).toNatClampNeg = true) : LGo g t a3 (zev mL_law 1104 [.ref 0, .ref 3, .ref 250, .int a3] g) := by
  obtain ⟨x, g1, g3, σ', e1, e0, e2, st', e3⟩ := two_L (k_ofNet ((g.1 0 ((a3 + 1).toNatClampNeg))) ((g.1 0 ((a3 + 2).toNatClampNeg))) ((g.1 0 ((a3 + 3).toNatClampNeg)))) st ht
  refine ⟨g3, σ', st', e3, ?_⟩
  rw [uL_law_1104, z1, z2, z3, show zev mX11_ofNet 0 [.ref 3, .int ((g.1 0 ((a3 + 1).toNatClampNeg))), .int ((g.1 0 ((a3 + 2).toNatClampNeg))), .int ((g.1 0 ((a3 + 3).toNatClampNeg)))] g = _ from e1, zaL_some, e0, z1, z2, z3, show zev mX12_ofNet 0 [.ref 250, .int ((g.1 0 ((a3 + 1).toNatClampNeg))), .int ((g.1 0 ((a3 + 2).toNatClampNeg))), .int ((g.1 0 ((a3 + 3).toNatClampNeg)))] g1 = _ from e2, zaL_some, cmp_eq, decide_eq_true (rfl : x = x)]
  rfl
theorem lw_1148 {g : zIJ} {σ : zS} {t : Nat} {a3 : Int32} (st : LSt3 g σ t) (ht : t ≤ 900000) (z1 : zin (a3 + 1) (g.1 0 5000).toNatClampNeg = true) (z2 : zin (a3 + 2) (g.1 0 5000).toNatClampNeg = true) (z3 : zin (a3 + 3) (g.1 0 5000).toNatClampNeg = true) (z4 : zin (a3 + 4) (g.1 0 5000).toNatClampNeg = true) (z5 : zin (a3 + 5) (g.1 0 5000).toNatClampNeg = true) : LGo g t a3 (zev mL_law 1148 [.ref 0, .ref 3, .ref 250, .int a3] g) := by
  obtain ⟨x, g1, g3, σ', e1, e0, e2, st', e3⟩ := two_I (k_best ((g.1 0 ((a3 + 1).toNatClampNeg))) ((g.1 0 ((a3 + 2).toNatClampNeg)))) st ht
  refine ⟨g3, σ', st', e3, ?_⟩
  rw [uL_law_1148, z1, z2, show zev mX11_best 0 [.ref 3, .int ((g.1 0 ((a3 + 1).toNatClampNeg))), .int ((g.1 0 ((a3 + 2).toNatClampNeg)))] g = _ from e1, zaI_some, e0, z1, z2, show zev mX12_best 0 [.ref 250, .int ((g.1 0 ((a3 + 1).toNatClampNeg))), .int ((g.1 0 ((a3 + 2).toNatClampNeg)))] g1 = _ from e2, zaI_some, decide_eq_true (rfl : x = x)]
  rfl
theorem lw_1181 (hsp : ∀ a, PairK isI (fun g => zev mX11_splits 0 [.ref 3, .int a] g) (fun g => zev mX12_splits 0 [.ref 250, .int a] g)) {g : zIJ} {σ : zS} {t : Nat} {a3 : Int32} (st : LSt3 g σ t) (ht : t ≤ 900000) (z1 : zin (a3 + 1) (g.1 0 5000).toNatClampNeg = true) (z2 : zin (a3 + 2) (g.1 0 5000).toNatClampNeg = true) (z3 : zin (a3 + 3) (g.1 0 5000).toNatClampNeg = true) (z4 : zin (a3 + 4) (g.1 0 5000).toNatClampNeg = true) (z5 : zin (a3 + 5) (g.1 0 5000).toNatClampNeg = true) : LGo g t a3 (zev mL_law 1181 [.ref 0, .ref 3, .ref 250, .int a3] g) := by
  obtain ⟨x, g1, g3, σ', e1, e0, e2, st', e3⟩ := two_I (hsp ((g.1 0 ((a3 + 1).toNatClampNeg)))) st ht
  refine ⟨g3, σ', st', e3, ?_⟩
  rw [uL_law_1181, z1, show zev mX11_splits 0 [.ref 3, .int ((g.1 0 ((a3 + 1).toNatClampNeg)))] g = _ from e1, zaI_some, e0, z1, show zev mX12_splits 0 [.ref 250, .int ((g.1 0 ((a3 + 1).toNatClampNeg)))] g1 = _ from e2, zaI_some, decide_eq_true (rfl : x = x)]
  rfl
theorem lw_1204 {g : zIJ} {σ : zS} {t : Nat} {a3 : Int32} (st : LSt3 g σ t) (ht : t ≤ 900000) (z1 : zin (a3 + 1) (g.1 0 5000).toNatClampNeg = true) (z2 : zin (a3 + 2) (g.1 0 5000).toNatClampNeg = true) (z3 : zin (a3 + 3) (g.1 0 5000).toNatClampNeg = true) (z4 : zin (a3 + 4) (g.1 0 5000).toNatClampNeg = true) (z5 : zin (a3 + 5) (g.1 0 5000).toNatClampNeg = true) : LGo g t a3 (zev mL_law 1204 [.ref 0, .ref 3, .ref 250, .int a3] g) := by
  obtain ⟨x, g1, g3, σ', e1, e0, e2, st', e3⟩ := two_I (k_area ((g.1 0 ((a3 + 1).toNatClampNeg)))) st ht
  refine ⟨g3, σ', st', e3, ?_⟩
  rw [uL_law_1204, z1, show zev mX11_area 0 [.ref 3, .int ((g.1 0 ((a3 + 1).toNatClampNeg)))] g = _ from e1, zaI_some, e0, z1, show zev mX12_area 0 [.ref 250, .int ((g.1 0 ((a3 + 1).toNatClampNeg)))] g1 = _ from e2, zaI_some, decide_eq_true (rfl : x = x)]
  rfl
theorem lw_1227 {g : zIJ} {σ : zS} {t : Nat} {a3 : Int32} (st : LSt3 g σ t) (ht : t ≤ 900000) (z1 : zin (a3 + 1) (g.1 0 5000).toNatClampNeg = true) (z2 : zin (a3 + 2) (g.1 0 5000).toNatClampNeg = true) (z3 : zin (a3 + 3) (g.1 0 5000).toNatClampNeg = true) (z4 : zin (a3 + 4) (g.1 0 5000).toNatClampNeg = true) (z5 : zin (a3 + 5) (g.1 0 5000).toNatClampNeg = true) : LGo g t a3 (zev mL_law 1227 [.ref 0, .ref 3, .ref 250, .int a3] g) := by
  obtain ⟨x, g1, g3, σ', e1, e0, e2, st', e3⟩ := two_I (k_within ((g.1 0 ((a3 + 1).toNatClampNeg)))) st ht
  refine ⟨g3, σ', st', e3, ?_⟩
  rw [uL_law_1227, z1, show zev mX11_within 0 [.ref 3, .int ((g.1 0 ((a3 + 1).toNatClampNeg)))] g = _ from e1, zaI_some, e0, z1, show zev mX12_within 0 [.ref 250, .int ((g.1 0 ((a3 + 1).toNatClampNeg)))] g1 = _ from e2, zaI_some, decide_eq_true (rfl : x = x)]
  rfl
theorem lw_1250 {g : zIJ} {σ : zS} {t : Nat} {a3 : Int32} (st : LSt3 g σ t) (ht : t ≤ 900000) (z1 : zin (a3 + 1) (g.1 0 5000).toNatClampNeg = true) (z2 : zin (a3 + 2) (g.1 0 5000).toNatClampNeg = true) (z3 : zin (a3 + 3) (g.1 0 5000).toNatClampNeg = true) (z4 : zin (a3 + 4) (g.1 0 5000).toNatClampNeg = true) (z5 : zin (a3 + 5) (g.1 0 5000).toNatClampNeg = true) : LGo g t a3 (zev mL_law 1250 [.ref 0, .ref 3, .ref 250, .int a3] g) := by
  obtain ⟨x, g1, g3, σ', e1, e0, e2, st', e3⟩ := two_I (k_empty ((g.1 0 ((a3 + 1).toNatClampNeg)))) st ht
  refine ⟨g3, σ', st', e3, ?_⟩
  rw [uL_law_1250, z1, show zev mX11_empty 0 [.ref 3, .int ((g.1 0 ((a3 + 1).toNatClampNeg)))] g = _ from e1, zaI_some, e0, z1, show zev mX12_empty 0 [.ref 250, .int ((g.1 0 ((a3 + 1).toNatClampNeg)))] g1 = _ from e2, zaI_some, decide_eq_true (rfl : x = x)]
  rfl
theorem lw_1273 {g : zIJ} {σ : zS} {t : Nat} {a3 : Int32} (st : LSt3 g σ t) (ht : t ≤ 900000) (z1 : zin (a3 + 1) (g.1 0 5000).toNatClampNeg = true) (z2 : zin (a3 + 2) (g.1 0 5000).toNatClampNeg = true) (z3 : zin (a3 + 3) (g.1 0 5000).toNatClampNeg = true) (z4 : zin (a3 + 4) (g.1 0 5000).toNatClampNeg = true) (z5 : zin (a3 + 5) (g.1 0 5000).toNatClampNeg = true) : LGo g t a3 (zev mL_law 1273 [.ref 0, .ref 3, .ref 250, .int a3] g) := by
  obtain ⟨x, g1, g3, σ', e1, e0, e2, st', e3⟩ := two_I (k_prove ((g.1 0 ((a3 + 1).toNatClampNeg)))) st ht
  refine ⟨g3, σ', st', e3, ?_⟩
  rw [uL_law_1273, z1, show zev mX11_prove 0 [.ref 3, .int ((g.1 0 ((a3 + 1).toNatClampNeg)))] g = _ from e1, zaI_some, e0, z1, show zev mX12_prove 0 [.ref 250, .int ((g.1 0 ((a3 + 1).toNatClampNeg)))] g1 = _ from e2, zaI_some, decide_eq_true (rfl : x = x)]
  rfl
theorem lw_1296 {g : zIJ} {σ : zS} {t : Nat} {a3 : Int32} (st : LSt3 g σ t) (ht : t ≤ 900000) (z1 : zin (a3 + 1) (g.1 0 5000).toNatClampNeg = true) (z2 : zin (a3 + 2) (g.1 0 5000).toNatClampNeg = true) (z3 : zin (a3 + 3) (g.1 0 5000).toNatClampNeg = true) (z4 : zin (a3 + 4) (g.1 0 5000).toNatClampNeg = true) (z5 : zin (a3 + 5) (g.1 0 5000).toNatClampNeg = true) : LGo g t a3 (zev mL_law 1296 [.ref 0, .ref 3, .ref 250, .int a3] g) := by
  obtain ⟨x, g1, g3, σ', e1, e0, e2, st', e3⟩ := two_I (k_row ((g.1 0 ((a3 + 1).toNatClampNeg))) ((g.1 0 ((a3 + 2).toNatClampNeg)))) st ht
  refine ⟨g3, σ', st', e3, ?_⟩
  rw [uL_law_1296, z1, z2, show zev mX11_row 0 [.ref 3, .int ((g.1 0 ((a3 + 1).toNatClampNeg))), .int ((g.1 0 ((a3 + 2).toNatClampNeg)))] g = _ from e1, zaI_some, e0, z1, z2, show zev mX12_row 0 [.ref 250, .int ((g.1 0 ((a3 + 1).toNatClampNeg))), .int ((g.1 0 ((a3 + 2).toNatClampNeg)))] g1 = _ from e2, zaI_some, decide_eq_true (rfl : x = x)]
  rfl
theorem lw_1329 {g : zIJ} {σ : zS} {t : Nat} {a3 : Int32} (st : LSt3 g σ t) (ht : t ≤ 900000) (z1 : zin (a3 + 1) (g.1 0 5000).toNatClampNeg = true) (z2 : zin (a3 + 2) (g.1 0 5000).toNatClampNeg = true) (z3 : zin (a3 + 3) (g.1 0 5000).toNatClampNeg = true) (z4 : zin (a3 + 4) (g.1 0 5000).toNatClampNeg = true) (z5 : zin (a3 + 5) (g.1 0 5000).toNatClampNeg = true) : LGo g t a3 (zev mL_law 1329 [.ref 0, .ref 3, .ref 250, .int a3] g) := by
  obtain ⟨x, g1, g3, σ', e1, e0, e2, st', e3⟩ := two_I (k_alter ((g.1 0 ((a3 + 1).toNatClampNeg))) ((g.1 0 ((a3 + 2).toNatClampNeg))) ((g.1 0 ((a3 + 3).toNatClampNeg)))) st ht
  refine ⟨g3, σ', st', e3, ?_⟩
  rw [uL_law_1329, z1, z2, z3, show zev mX11_alter 0 [.ref 3, .int ((g.1 0 ((a3 + 1).toNatClampNeg))), .int ((g.1 0 ((a3 + 2).toNatClampNeg))), .int ((g.1 0 ((a3 + 3).toNatClampNeg)))] g = _ from e1, zaI_some, e0, z1, z2, z3, show zev mX12_alter 0 [.ref 250, .int ((g.1 0 ((a3 + 1).toNatClampNeg))), .int ((g.1 0 ((a3 + 2).toNatClampNeg))), .int ((g.1 0 ((a3 + 3).toNatClampNeg)))] g1 = _ from e2, zaI_some, decide_eq_true (rfl : x = x)]
  rfl
theorem lw_1372 {g : zIJ} {σ : zS} {t : Nat} {a3 : Int32} (st : LSt3 g σ t) (ht : t ≤ 900000) (z1 : zin (a3 + 1) (g.1 0 5000).toNatClampNeg = true) (z2 : zin (a3 + 2) (g.1 0 5000).toNatClampNeg = true) (z3 : zin (a3 + 3) (g.1 0 5000).toNatClampNeg = true) (z4 : zin (a3 + 4) (g.1 0 5000).toNatClampNeg = true) (z5 : zin (a3 + 5) (g.1 0 5000).toNatClampNeg = true) : LGo g t a3 (zev mL_law 1372 [.ref 0, .ref 3, .ref 250, .int a3] g) := by
  obtain ⟨x, g1, g3, σ', e1, e0, e2, st', e3⟩ := two_I (k_judge ((g.1 0 ((a3 + 1).toNatClampNeg)))) st ht
  refine ⟨g3, σ', st', e3, ?_⟩
  rw [uL_law_1372, z1, show zev mX11_judge 0 [.ref 3, .int ((g.1 0 ((a3 + 1).toNatClampNeg)))] g = _ from e1, zaI_some, e0, z1, show zev mX12_judge 0 [.ref 250, .int ((g.1 0 ((a3 + 1).toNatClampNeg)))] g1 = _ from e2, zaI_some, decide_eq_true (rfl : x = x)]
  rfl
theorem lw_1395 {g : zIJ} {σ : zS} {t : Nat} {a3 : Int32} (st : LSt3 g σ t) (ht : t ≤ 900000) (z1 : zin (a3 + 1) (g.1 0 5000).toNatClampNeg = true) (z2 : zin (a3 + 2) (g.1 0 5000).toNatClampNeg = true) (z3 : zin (a3 + 3) (g.1 0 5000).toNatClampNeg = true) (z4 : zin (a3 + 4) (g.1 0 5000).toNatClampNeg = true) (z5 : zin (a3 + 5) (g.1 0 5000).toNatClampNeg = true) : LGo g t a3 (zev mL_law 1395 [.ref 0, .ref 3, .ref 250, .int a3] g) := by
  obtain ⟨x, g1, g3, σ', e1, e0, e2, st', e3⟩ := two_I (k_sheet ((g.1 0 ((a3 + 1).toNatClampNeg))) ((g.1 0 ((a3 + 2).toNatClampNeg))) ((g.1 0 ((a3 + 3).toNatClampNeg)))) st ht
  refine ⟨g3, σ', st', e3, ?_⟩
  rw [uL_law_1395, z1, z2, z3, show zev mX11_sheet 0 [.ref 3, .int ((g.1 0 ((a3 + 1).toNatClampNeg))), .int ((g.1 0 ((a3 + 2).toNatClampNeg))), .int ((g.1 0 ((a3 + 3).toNatClampNeg)))] g = _ from e1, zaI_some, e0, z1, z2, z3, show zev mX12_sheet 0 [.ref 250, .int ((g.1 0 ((a3 + 1).toNatClampNeg))), .int ((g.1 0 ((a3 + 2).toNatClampNeg))), .int ((g.1 0 ((a3 + 3).toNatClampNeg)))] g1 = _ from e2, zaI_some, decide_eq_true (rfl : x = x)]
  rfl
theorem lw_1438 {g : zIJ} {σ : zS} {t : Nat} {a3 : Int32} (st : LSt3 g σ t) (ht : t ≤ 900000) (z1 : zin (a3 + 1) (g.1 0 5000).toNatClampNeg = true) (z2 : zin (a3 + 2) (g.1 0 5000).toNatClampNeg = true) (z3 : zin (a3 + 3) (g.1 0 5000).toNatClampNeg = true) (z4 : zin (a3 + 4) (g.1 0 5000).toNatClampNeg = true) (z5 : zin (a3 + 5) (g.1 0 5000).toNatClampNeg = true) : LGo g t a3 (zev mL_law 1438 [.ref 0, .ref 3, .ref 250, .int a3] g) := by
  obtain ⟨x, g1, g3, σ', e1, e0, e2, st', e3⟩ := two_I (k_write ((g.1 0 ((a3 + 1).toNatClampNeg))) ((g.1 0 ((a3 + 2).toNatClampNeg))) (((((g.1 0 ((a3 + 3).toNatClampNeg)).toInt64) <<< ((32 : Int32).toInt64 &&& 63)) ||| (((g.1 0 ((a3 + 4).toNatClampNeg)).toInt64) &&& 4294967295)))) st ht
  refine ⟨g3, σ', st', e3, ?_⟩
  rw [uL_law_1438, z1, z2, z3, z4, show zev mX11_write 0 [.ref 3, .int ((g.1 0 ((a3 + 1).toNatClampNeg))), .int ((g.1 0 ((a3 + 2).toNatClampNeg))), .long (((((g.1 0 ((a3 + 3).toNatClampNeg)).toInt64) <<< ((32 : Int32).toInt64 &&& 63)) ||| (((g.1 0 ((a3 + 4).toNatClampNeg)).toInt64) &&& 4294967295)))] g = _ from e1, zaI_some, e0, z1, z2, z3, z4, show zev mX12_write 0 [.ref 250, .int ((g.1 0 ((a3 + 1).toNatClampNeg))), .int ((g.1 0 ((a3 + 2).toNatClampNeg))), .long (((((g.1 0 ((a3 + 3).toNatClampNeg)).toInt64) <<< ((32 : Int32).toInt64 &&& 63)) ||| (((g.1 0 ((a3 + 4).toNatClampNeg)).toInt64) &&& 4294967295)))] g1 = _ from e2, zaI_some, decide_eq_true (rfl : x = x)]
  rfl
theorem lw_1511 {g : zIJ} {σ : zS} {t : Nat} {a3 : Int32} (st : LSt3 g σ t) (ht : t ≤ 900000) (z1 : zin (a3 + 1) (g.1 0 5000).toNatClampNeg = true) (z2 : zin (a3 + 2) (g.1 0 5000).toNatClampNeg = true) (z3 : zin (a3 + 3) (g.1 0 5000).toNatClampNeg = true) (z4 : zin (a3 + 4) (g.1 0 5000).toNatClampNeg = true) (z5 : zin (a3 + 5) (g.1 0 5000).toNatClampNeg = true) : LGo g t a3 (zev mL_law 1511 [.ref 0, .ref 3, .ref 250, .int a3] g) := by
  obtain ⟨x, g1, g3, σ', e1, e0, e2, st', e3⟩ := two_L (k_item ((g.1 0 ((a3 + 1).toNatClampNeg))) ((g.1 0 ((a3 + 2).toNatClampNeg)))) st ht
  refine ⟨g3, σ', st', e3, ?_⟩
  rw [uL_law_1511, z1, z2, show zev mX11_item 0 [.ref 3, .int ((g.1 0 ((a3 + 1).toNatClampNeg))), .int ((g.1 0 ((a3 + 2).toNatClampNeg)))] g = _ from e1, zaL_some, e0, z1, z2, show zev mX12_item 0 [.ref 250, .int ((g.1 0 ((a3 + 1).toNatClampNeg))), .int ((g.1 0 ((a3 + 2).toNatClampNeg)))] g1 = _ from e2, zaL_some, cmp_eq, decide_eq_true (rfl : x = x)]
  rfl
theorem lw_1545 {g : zIJ} {σ : zS} {t : Nat} {a3 : Int32} (st : LSt3 g σ t) (ht : t ≤ 900000) (z1 : zin (a3 + 1) (g.1 0 5000).toNatClampNeg = true) (z2 : zin (a3 + 2) (g.1 0 5000).toNatClampNeg = true) (z3 : zin (a3 + 3) (g.1 0 5000).toNatClampNeg = true) (z4 : zin (a3 + 4) (g.1 0 5000).toNatClampNeg = true) (z5 : zin (a3 + 5) (g.1 0 5000).toNatClampNeg = true) : LGo g t a3 (zev mL_law 1545 [.ref 0, .ref 3, .ref 250, .int a3] g) := by
  obtain ⟨x, g1, g3, σ', e1, e0, e2, st', e3⟩ := two_I (k_copy ((g.1 0 ((a3 + 1).toNatClampNeg))) ((g.1 0 ((a3 + 2).toNatClampNeg))) ((g.1 0 ((a3 + 3).toNatClampNeg))) ((g.1 0 ((a3 + 4).toNatClampNeg))) ((g.1 0 ((a3 + 5).toNatClampNeg)))) st ht
  refine ⟨g3, σ', st', e3, ?_⟩
  rw [uL_law_1545, z1, z2, z3, z4, z5, show zev mX11_copy 0 [.ref 3, .int ((g.1 0 ((a3 + 1).toNatClampNeg))), .int ((g.1 0 ((a3 + 2).toNatClampNeg))), .int ((g.1 0 ((a3 + 3).toNatClampNeg))), .int ((g.1 0 ((a3 + 4).toNatClampNeg))), .int ((g.1 0 ((a3 + 5).toNatClampNeg)))] g = _ from e1, zaI_some, e0, z1, z2, z3, z4, z5, show zev mX12_copy 0 [.ref 250, .int ((g.1 0 ((a3 + 1).toNatClampNeg))), .int ((g.1 0 ((a3 + 2).toNatClampNeg))), .int ((g.1 0 ((a3 + 3).toNatClampNeg))), .int ((g.1 0 ((a3 + 4).toNatClampNeg))), .int ((g.1 0 ((a3 + 5).toNatClampNeg)))] g1 = _ from e2, zaI_some, decide_eq_true (rfl : x = x)]
  rfl
theorem lw_1608 {g : zIJ} {σ : zS} {t : Nat} {a3 : Int32} (st : LSt3 g σ t) (ht : t ≤ 900000) (z1 : zin (a3 + 1) (g.1 0 5000).toNatClampNeg = true) (z2 : zin (a3 + 2) (g.1 0 5000).toNatClampNeg = true) (z3 : zin (a3 + 3) (g.1 0 5000).toNatClampNeg = true) (z4 : zin (a3 + 4) (g.1 0 5000).toNatClampNeg = true) (z5 : zin (a3 + 5) (g.1 0 5000).toNatClampNeg = true) : LGo g t a3 (zev mL_law 1608 [.ref 0, .ref 3, .ref 250, .int a3] g) := by
  obtain ⟨x, g1, g3, σ', e1, e0, e2, st', e3⟩ := two_I k_undo st ht
  refine ⟨g3, σ', st', e3, ?_⟩
  rw [uL_law_1608, show zev mX11_undo 0 [.ref 3] g = _ from e1, zaI_some, show zev mX12_undo 0 [.ref 250] g1 = _ from e2, zaI_some, decide_eq_true (rfl : x = x)]
  rfl
theorem lw_1621 {g : zIJ} {σ : zS} {t : Nat} {a3 : Int32} (st : LSt3 g σ t) (ht : t ≤ 900000) (z1 : zin (a3 + 1) (g.1 0 5000).toNatClampNeg = true) (z2 : zin (a3 + 2) (g.1 0 5000).toNatClampNeg = true) (z3 : zin (a3 + 3) (g.1 0 5000).toNatClampNeg = true) (z4 : zin (a3 + 4) (g.1 0 5000).toNatClampNeg = true) (z5 : zin (a3 + 5) (g.1 0 5000).toNatClampNeg = true) : LGo g t a3 (zev mL_law 1621 [.ref 0, .ref 3, .ref 250, .int a3] g) := by
  obtain ⟨x, g1, g3, σ', e1, e0, e2, st', e3⟩ := two_I (k_seed ((g.1 0 ((a3 + 1).toNatClampNeg)))) st ht
  refine ⟨g3, σ', st', e3, ?_⟩
  rw [uL_law_1621, z1, show zev mX11_seed 0 [.ref 3, .int ((g.1 0 ((a3 + 1).toNatClampNeg)))] g = _ from e1, zaI_some, e0, z1, show zev mX12_seed 0 [.ref 250, .int ((g.1 0 ((a3 + 1).toNatClampNeg)))] g1 = _ from e2, zaI_some, decide_eq_true (rfl : x = x)]
  rfl
theorem lw_1644 {g : zIJ} {σ : zS} {t : Nat} {a3 : Int32} (st : LSt3 g σ t) (ht : t ≤ 900000) (z1 : zin (a3 + 1) (g.1 0 5000).toNatClampNeg = true) (z2 : zin (a3 + 2) (g.1 0 5000).toNatClampNeg = true) (z3 : zin (a3 + 3) (g.1 0 5000).toNatClampNeg = true) (z4 : zin (a3 + 4) (g.1 0 5000).toNatClampNeg = true) (z5 : zin (a3 + 5) (g.1 0 5000).toNatClampNeg = true) : LGo g t a3 (zev mL_law 1644 [.ref 0, .ref 3, .ref 250, .int a3] g) := by
  obtain ⟨x, g1, g3, σ', e1, e0, e2, st', e3⟩ := two_I (k_count ((g.1 0 ((a3 + 1).toNatClampNeg)))) st ht
  refine ⟨g3, σ', st', e3, ?_⟩
  rw [uL_law_1644, z1, show zev mX11_count 0 [.ref 3, .int ((g.1 0 ((a3 + 1).toNatClampNeg)))] g = _ from e1, zaI_some, e0, z1, show zev mX12_count 0 [.ref 250, .int ((g.1 0 ((a3 + 1).toNatClampNeg)))] g1 = _ from e2, zaI_some, decide_eq_true (rfl : x = x)]
  rfl
theorem lw_1667 {g : zIJ} {σ : zS} {t : Nat} {a3 : Int32} (st : LSt3 g σ t) (ht : t ≤ 900000) (z1 : zin (a3 + 1) (g.1 0 5000).toNatClampNeg = true) (z2 : zin (a3 + 2) (g.1 0 5000).toNatClampNeg = true) (z3 : zin (a3 + 3) (g.1 0 5000).toNatClampNeg = true) (z4 : zin (a3 + 4) (g.1 0 5000).toNatClampNeg = true) (z5 : zin (a3 + 5) (g.1 0 5000).toNatClampNeg = true) : LGo g t a3 (zev mL_law 1667 [.ref 0, .ref 3, .ref 250, .int a3] g) := by
  obtain ⟨x, g1, g3, σ', e1, e0, e2, st', e3⟩ := two_I (k_status ((g.1 0 ((a3 + 1).toNatClampNeg)))) st ht
  refine ⟨g3, σ', st', e3, ?_⟩
  rw [uL_law_1667, z1, show zev mX11_status 0 [.ref 3, .int ((g.1 0 ((a3 + 1).toNatClampNeg)))] g = _ from e1, zaI_some, e0, z1, show zev mX12_status 0 [.ref 250, .int ((g.1 0 ((a3 + 1).toNatClampNeg)))] g1 = _ from e2, zaI_some, decide_eq_true (rfl : x = x)]
  rfl
theorem lw_turn (hsp : ∀ a, PairK isI (fun g => zev mX11_splits 0 [.ref 3, .int a] g) (fun g => zev mX12_splits 0 [.ref 250, .int a] g)) {g : zIJ} {σ : zS} {t i len : Nat} (st : LSt3 g σ t) (ht : t ≤ 900000) (hl : (g.1 0 5000).toNatClampNeg = len) (l3 : len ≤ 3072) (hi : i + 6 ≤ len) : ∃ g3 σ', LSt3 g3 σ' (t + 2) ∧ g3.1 0 = g.1 0 ∧ zev mL_law 18 [.ref 0, .ref 3, .ref 250, .int (nI i)] g = zev mL_law 18 [.ref 0, .ref 3, .ref 250, .int (nI (i + 6))] g3 := by
  have zz : ∀ j, j < 6 → zin (nI i + nI j) (g.1 0 5000).toNatClampNeg = true := fun j hj => by
    rw [hl, nI_add]
    exact zin_n (by omega) (by omega)
  have z0 := zz 0 (by omega)
  have z0' : zin (nI i) (g.1 0 5000).toNatClampNeg = true := by
    rw [nI_add, Nat.add_zero] at z0
    exact z0
  have z1 := zz 1 (by omega)
  have z2 := zz 2 (by omega)
  have z3 := zz 3 (by omega)
  have z4 := zz 4 (by omega)
  have z5 := zz 5 (by omega)
  have d6 : decide (Int32.ofNat (g.1 0 5000).toNatClampNeg - 6 < nI i) = false := by
    rw [hl, show Int32.ofNat len - 6 = nI (len - 6) from nI_sub (a := len) (b := 6) (by omega)]
    exact decide_eq_false (nI_nlt (by omega) (by omega))
  have go : LGo g t (nI i) (zev mL_law 18 [.ref 0, .ref 3, .ref 250, .int (nI i)] g) := by
    rw [uL_law_18, d6, z0']
    exact lgo_f (lgo_t (lgo_c (lw_228 st ht z1 z2 z3 z4 z5) (lgo_c (lw_261 st ht z1 z2 z3 z4 z5) (lgo_c (lw_274 st ht z1 z2 z3 z4 z5) (lgo_c (lw_317 st ht z1 z2 z3 z4 z5) (lgo_c (lw_350 st ht z1 z2 z3 z4 z5) (lgo_c (lw_393 st ht z1 z2 z3 z4 z5) (lgo_c (lw_426 st ht z1 z2 z3 z4 z5) (lgo_c (lw_469 st ht z1 z2 z3 z4 z5) (lgo_c (lw_522 st ht z1 z2 z3 z4 z5) (lgo_c (lw_545 st ht z1 z2 z3 z4 z5) (lgo_c (lw_558 st ht z1 z2 z3 z4 z5) (lgo_c (lw_582 st ht z1 z2 z3 z4 z5) (lgo_c (lw_635 st ht z1 z2 z3 z4 z5) (lgo_c (lw_668 st ht z1 z2 z3 z4 z5) (lgo_c (lw_692 st ht z1 z2 z3 z4 z5) (lgo_c (lw_705 st ht z1 z2 z3 z4 z5) (lgo_c (lw_738 st ht z1 z2 z3 z4 z5) (lgo_c (lw_762 st ht z1 z2 z3 z4 z5) (lgo_c (lw_805 st ht z1 z2 z3 z4 z5) (lgo_c (lw_838 st ht z1 z2 z3 z4 z5) (lgo_c (lw_871 st ht z1 z2 z3 z4 z5) (lgo_c (lw_914 st ht z1 z2 z3 z4 z5) (lgo_c (lw_927 st ht z1 z2 z3 z4 z5) (lgo_c (lw_960 st ht z1 z2 z3 z4 z5) (lgo_c (lw_993 st ht z1 z2 z3 z4 z5) (lgo_c (lw_1006 st ht z1 z2 z3 z4 z5) (lgo_c (lw_1060 st ht z1 z2 z3 z4 z5) (lgo_c (lw_1104 st ht z1 z2 z3 z4 z5) (lgo_c (lw_1148 st ht z1 z2 z3 z4 z5) (lgo_c (lw_1181 hsp st ht z1 z2 z3 z4 z5) (lgo_c (lw_1204 st ht z1 z2 z3 z4 z5) (lgo_c (lw_1227 st ht z1 z2 z3 z4 z5) (lgo_c (lw_1250 st ht z1 z2 z3 z4 z5) (lgo_c (lw_1273 st ht z1 z2 z3 z4 z5) (lgo_c (lw_1296 st ht z1 z2 z3 z4 z5) (lgo_c (lw_1329 st ht z1 z2 z3 z4 z5) (lgo_c (lw_1372 st ht z1 z2 z3 z4 z5) (lgo_c (lw_1395 st ht z1 z2 z3 z4 z5) (lgo_c (lw_1438 st ht z1 z2 z3 z4 z5) (lgo_c (lw_1511 st ht z1 z2 z3 z4 z5) (lgo_c (lw_1545 st ht z1 z2 z3 z4 z5) (lgo_c (lw_1608 st ht z1 z2 z3 z4 z5) (lgo_c (lw_1621 st ht z1 z2 z3 z4 z5) (lgo_c (lw_1644 st ht z1 z2 z3 z4 z5) (lgo_c (lw_1667 st ht z1 z2 z3 z4 z5) (lw_end st)))))))))))))))))))))))))))))))))))))))))))))))
  obtain ⟨g3, σ', s3, e3, e⟩ := go
  refine ⟨g3, σ', s3, e3, ?_⟩
  rw [e, uL_law_1690, show nI i + 6 = nI (i + 6) from nI_add i 6]
theorem lw_loop (hsp : ∀ a, PairK isI (fun g => zev mX11_splits 0 [.ref 3, .int a] g) (fun g => zev mX12_splits 0 [.ref 250, .int a] g)) {len : Nat} (l3 : len ≤ 3072) : ∀ (d i t : Nat) (g : zIJ) (σ : zS), len ≤ i + d → i ≤ len → t ≤ 2 * i → LSt3 g σ t → (g.1 0 5000).toNatClampNeg = len → ∃ g', zev mL_law 18 [.ref 0, .ref 3, .ref 250, .int (nI i)] g = some (some (.int 1), g')
  | 0, i, t, g, σ, hd, hi, ht, st, hl => by
    refine ⟨g, ?_⟩
    rw [uL_law_18, hl]
    have d6 : decide (Int32.ofNat len - 6 < nI i) = true := by
      refine decide_eq_true (Int32.lt_iff_toInt_lt.mpr ?_)
      have e1 : (Int32.ofNat len - 6).toInt = (len : Int) - 6 := by
        show (nI len - 6).toInt = _
        rw [nI_cI, show (6 : Int32) = cI 6 from rfl, cI_sub]
        exact cI_toInt (by omega) (by omega)
      rw [e1, nI_toInt (by omega)]
      omega
    rw [d6]; rfl
  | d + 1, i, t, g, σ, hd, hi, ht, st, hl => by
    by_cases q : i + 6 ≤ len
    · obtain ⟨g3, σ', s3, e3, e⟩ := lw_turn hsp st (by omega) hl l3 q
      obtain ⟨g', e'⟩ := lw_loop hsp l3 d (i + 6) (t + 2) g3 σ' (by omega) q (by omega) s3 (by rw [show g3.1 0 5000 = g.1 0 5000 from congrFun e3 5000]; exact hl)
      exact ⟨g', e.trans e'⟩
    · refine ⟨g, ?_⟩
      rw [uL_law_18, hl]
      have d6 : decide (Int32.ofNat len - 6 < nI i) = true := by
        refine decide_eq_true (Int32.lt_iff_toInt_lt.mpr ?_)
        have e1 : (Int32.ofNat len - 6).toInt = (len : Int) - 6 := by
          show (nI len - 6).toInt = _
          rw [nI_cI, show (6 : Int32) = cI 6 from rfl, cI_sub]
          exact cI_toInt (by omega) (by omega)
        rw [e1, nI_toInt (by omega)]
        omega
      rw [d6]; rfl
