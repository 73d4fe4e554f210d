/-! The class's plane: crossings. -/
section
variable {g : zIJ} {n : Nat} {X Y : Nat → Int}
def crb (X Y : Nat → Int) (n e f : Nat) : Bool := decide (eHi e < n) && (decide (eHi f < n) && crs (oXY X Y) (eLo e) (eHi e) (eLo f) (eHi f))
theorem crb_sy (e f : Nat) : crb X Y n e f = crb X Y n f e := by
  unfold crb
  rw [crs_sw]
  cases decide (eHi e < n) <;> cases decide (eHi f < n) <;> rfl
theorem crb_self (e : Nat) : crb X Y n e e = false := by
  unfold crb
  rw [crs_self]
  simp
def Dn2 (a b e f : Nat) : Prop := min e f < a ∨ (min e f = a ∧ max e f < b)
noncomputable def xB (X Y : Nat → Int) (n a b e f : Nat) : Bool := crb X Y n e f && cdec (Dn2 a b e f)
def tXr (k _j : Nat) : Bool := Nat.beq k 217
def XrI (g g' : zIJ) (X Y : Nat → Int) (n a b : Nat) : Prop := zFr tXr g g' ∧ ∀ e, e < 36 → g'.2 217 e = lN (mkM (xB X Y n a b e) 36)
theorem mkM_or {p : Nat → Bool} {c : Nat} (hc : c < 36) : mkM p 36 ||| 2 ^ c = mkM (fun i => p i || Nat.beq i c) 36 := by
  refine bit_ext (n := 36) (Nat.or_lt_two_pow (mkM_lt _ _) (Nat.pow_lt_pow_right (by omega) hc)) (mkM_lt _ _) (fun i hi => ?_)
  rw [set_or, mkM_at, mkM_at, decide_eq_true hi, beq_d]
  rfl
theorem xr_px (h : PX g n X Y) {g' : zIJ} (f : zFr tXr g g') : PX g' n X Y := px_of h (f 211 7 rfl).1 (funext fun j => (f 212 j rfl).1) (funext fun j => (f 213 j rfl).1)
theorem xr_cb (h : CB g n X Y) {g' : zIJ} (f : zFr tXr g g') : CB g' n X Y := cb_of h (funext fun j => (f 4 j rfl).1) (funext fun j => (f 5 j rfl).1) (funext fun j => (f 6 j rfl).1)
theorem xB_cg {a b a' b' : Nat} (h : ∀ e f, e < 36 → f < 36 → e ≠ f → (Dn2 a b e f ↔ Dn2 a' b' e f)) {e : Nat} (he : e < 36) : mkM (xB X Y n a b e) 36 = mkM (xB X Y n a' b' e) 36 := by
  refine mkM_cg 36 (fun f hf => ?_)
  unfold xB
  by_cases q : e = f
  · subst q; rw [crb_self]; rfl
  · congr 1
    by_cases d : Dn2 a b e f
    · rw [cdec_t d, cdec_t ((h e f he hf q).mp d)]
    · rw [cdec_f d, cdec_f (fun k => d ((h e f he hf q).mpr k))]
theorem lit36 {a : Nat} (h : a < 36) : decide ((36 : Int32) ≤ nI a) = false := decide_eq_false (nI_ge (a := a) (b := 36) h (by omega))
theorem c_findCrossings (h : PX g n X Y) (hb : CB g n X Y) (hN : Near X Y n) (hG : GP X Y n) : ∃ g', zev mX5_findCrossings 0 [.ref 211, .ref 4] g = some (none, g') ∧ zFr tXr g g' ∧ ∀ e, e < 36 → g'.2 217 e = lN (crM X Y n e) := by
  have hn := h.1
  obtain ⟨g0, e0, z0, f0⟩ := fill_l (t := 217) (N := 36) rfl (by omega) 0 g
  rw [uX5_findCrossings_0, e0, zaV_some]
  have f0' : zFr tXr g g0 := fr_le f0 (fun a b q => by
    unfold tXr at q
    rw [q]; rfl)
  have i0 : XrI g g0 X Y n 0 0 := ⟨f0', fun e he => by
    rw [z0 e he]
    have : mkM (xB X Y n 0 0 e) 36 = mkM (fun _ => false) 36 := mkM_cg 36 (fun f _ => by
      unfold xB
      rw [cdec_f (fun q => by unfold Dn2 at q; omega)]
      simp)
    rw [this]
    rfl⟩
  refine zloop (F := fun a g' => zev mX5_findCrossings 10 [.ref 211, .ref 4, .int (nI a)] g') (I := fun a g' => XrI g g' X Y n a 0) (Post := fun r => ∃ g', r = some (none, g') ∧ zFr tXr g g' ∧ ∀ e, e < 36 → g'.2 217 e = lN (crM X Y n e)) (lo := 0) (n := 36) (fun a g1 _ ha I1 => ?_) (fun g1 I1 => ?_) 36 0 g0 (Nat.le_refl _) (by omega) i0
  · rw [uX5_findCrossings_10, lit36 ha]
    simp only [nI_1]
    refine zloop (F := fun b g' => zev mX5_findCrossings 20 [.ref 211, .ref 4, .int (nI a), .int (nI b)] g') (I := fun b g' => XrI g g' X Y n a b) (Post := fun r => ∃ s', r = zev mX5_findCrossings 10 [.ref 211, .ref 4, .int (nI (a + 1))] s' ∧ XrI g s' X Y n (a + 1) 0) (lo := a + 1) (n := 36) (fun b g2 hb1 hb2 I2 => ?_) (fun g2 I2 => ?_) (36 - (a + 1)) (a + 1) g1 (Nat.le_refl _) (by omega) ⟨I1.1, fun e he => by rw [I1.2 e he, xB_cg (a' := a) (b' := a + 1) (fun e f _ _ q => by unfold Dn2; omega) he]⟩
    · have h2 := xr_px h I2.1
      have b2 := xr_cb hb I2.1
      obtain ⟨l1, l2, l3, l4, l5⟩ := edge_of ha
      obtain ⟨k1, k2, k3, k4, k5⟩ := edge_of hb2
      have same : crb X Y n a b = false → XrI g g2 X Y n a (b + 1) := fun q => ⟨I2.1, fun e he => by
        rw [I2.2 e he]
        congr 1
        refine mkM_cg 36 (fun f hf => ?_)
        unfold xB
        by_cases q1 : (e = a ∧ f = b) ∨ (e = b ∧ f = a)
        · have : crb X Y n e f = false := by
            rcases q1 with ⟨rfl, rfl⟩ | ⟨rfl, rfl⟩
            · exact q
            · rw [crb_sy]; exact q
          rw [this]; rfl
        · by_cases q0 : e = f
          · subst q0; rw [crb_self]; rfl
          · congr 1
            by_cases d : Dn2 a b e f
            · rw [cdec_t d, cdec_t (show Dn2 a (b + 1) e f from by unfold Dn2 at d ⊢; omega)]
            · rw [cdec_f d, cdec_f (fun k => d (by unfold Dn2 at k ⊢; omega))]⟩
      have D54 : zev mX5_findCrossings 54 [.ref 211, .ref 4, .int (nI a), .int (nI b)] g2 = zev mX5_findCrossings 20 [.ref 211, .ref 4, .int (nI a), .int (nI (b + 1))] g2 := by
        rw [uX5_findCrossings_54]
        simp only [nI_1]
        rfl
      rw [uX5_findCrossings_20, lit36 hb2, zin_n ha (by omega), zin_n hb2 (by omega), nI_clamp (by omega : a < 2 ^ 31), nI_clamp (by omega : b < 2 ^ 31), h2.2.1, l5, k5, D54]
      by_cases q1 : eHi a < n
      · by_cases q2 : eHi b < n
        · rw [decide_eq_false (nI_ge q1 (by omega)), decide_eq_false (nI_ge q2 (by omega)), c_doCross b2 hN ha hb2 q1 q2, zaI_some, bI_0]
          simp only [nI_1]
          have ec : crb X Y n a b = crs (oXY X Y) (eLo a) (eHi a) (eLo b) (eHi b) := by unfold crb; rw [decide_eq_true q1, decide_eq_true q2]; rfl
          cases q : crs (oXY X Y) (eLo a) (eHi a) (eLo b) (eHi b) with
          | false => exact ⟨g2, rfl, same (ec.trans q)⟩
          | true =>
            have c1 := ec.trans q
            rw [I2.2 a ha, bit_l (by omega : b < 63), bit_l (by omega : a < 63), lN_or, zL_col _ _ (by omega : b ≠ a), I2.2 b hb2, lN_or, mkM_or hb2, mkM_or ha]
            refine ⟨_, rfl, fr_tr (fr_tr I2.1 (fr_L g2 _ rfl)) (fr_L _ _ rfl), fun e he => ?_⟩
            by_cases eb : e = b
            · subst eb
              rw [zL_same]
              congr 1
              refine mkM_cg 36 (fun f hf => ?_)
              rw [beq_d]
              unfold xB
              by_cases q3 : f = a
              · subst q3
                rw [crb_sy, c1, decide_eq_true rfl, cdec_t (show Dn2 f (e + 1) e f from by unfold Dn2; omega)]
                simp
              · rw [decide_eq_false q3, Bool.or_false]
                by_cases q0 : e = f
                · subst q0; rw [crb_self]; rfl
                · congr 1
                  by_cases d : Dn2 a e e f
                  · rw [cdec_t d, cdec_t (show Dn2 a (e + 1) e f from by unfold Dn2 at d ⊢; omega)]
                  · rw [cdec_f d, cdec_f (fun k => d (by unfold Dn2 at k ⊢; omega))]
            · rw [zL_col _ _ eb]
              by_cases ea : e = a
              · subst ea
                rw [zL_same]
                congr 1
                refine mkM_cg 36 (fun f hf => ?_)
                rw [beq_d]
                unfold xB
                by_cases q3 : f = b
                · subst q3
                  rw [c1, decide_eq_true rfl, cdec_t (show Dn2 e (f + 1) e f from by unfold Dn2; omega)]
                  simp
                · rw [decide_eq_false q3, Bool.or_false]
                  by_cases q0 : e = f
                  · subst q0; rw [crb_self]; rfl
                  · congr 1
                    by_cases d : Dn2 e b e f
                    · rw [cdec_t d, cdec_t (show Dn2 e (b + 1) e f from by unfold Dn2 at d ⊢; omega)]
                    · rw [cdec_f d, cdec_f (fun k => d (by unfold Dn2 at k ⊢; omega))]
              · rw [zL_col _ _ ea, I2.2 e he]
                congr 1
                refine mkM_cg 36 (fun f hf => ?_)
                unfold xB
                congr 1
                by_cases d : Dn2 a b e f
                · rw [cdec_t d, cdec_t (show Dn2 a (b + 1) e f from by unfold Dn2 at d ⊢; omega)]
                · rw [cdec_f d, cdec_f (fun k => d (by unfold Dn2 at k ⊢; omega))]
        · rw [decide_eq_false (nI_ge q1 (by omega)), decide_eq_true (nI_le (by omega : n ≤ eHi b) (by omega))]
          exact ⟨g2, rfl, same (by unfold crb; rw [decide_eq_false q2]; simp)⟩
      · rw [decide_eq_true (nI_le (by omega : n ≤ eHi a) (by omega))]
        exact ⟨g2, rfl, same (by unfold crb; rw [decide_eq_false q1]; rfl)⟩
    · refine ⟨g2, ?_, I2.1, fun e he => by rw [I2.2 e he, xB_cg (a' := a + 1) (b' := 0) (fun e f _ _ q => by unfold Dn2; omega) he]⟩
      rw [uX5_findCrossings_20]
      simp only [nI_1]
      rfl
  · refine ⟨g1, ?_, I1.1, fun e he => ?_⟩
    · rw [uX5_findCrossings_10]; rfl
    · rw [I1.2 e he]
      congr 1
      unfold crM
      refine mkM_cg 36 (fun f hf => ?_)
      unfold xB crb
      rw [blt_d, blt_d]
      by_cases q0 : e = f
      · subst q0; rw [crs_self]; simp
      · rw [cdec_t (show Dn2 36 0 e f from by unfold Dn2; omega), Bool.and_true]
end
