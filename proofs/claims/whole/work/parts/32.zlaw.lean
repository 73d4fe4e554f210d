/-! From the law's entry to the head of its loop; from there on in the abstract machine. -/
theorem arrV_to {c : ClassId} {n : Nat} {f f' : Nat → Value} (h : ∀ j, j < n → f j = f' j) : arrV c n f = arrV c n f' := by
  unfold arrV
  have e : (fun j : Fin n => f j.val) = (fun j : Fin n => f' j.val) := funext fun j => h j.val j.isLt
  rw [e]
theorem y_to_z {E : zE} {s : State} {x0 : Nat → Int32} {st : yS} {H : Heap} (he : yEnd st = true) (hR : yR E s x0 st H) : zR E s (yg x0 st.2.2) H := by
  unfold yEnd at he
  rw [Bool.and_eq_true] at he
  have hN : st.1 = zNc := Nat.eq_of_beq_eq_true he.1
  obtain ⟨h1, h2, h3, h4, -⟩ := hR
  refine ⟨by rw [← hN]; exact h1.1, h2, h3, fun k hk => ?_⟩
  have hc := h4 k (by rw [hN]; exact hk)
  have ha := List.all_eq_true.mp he.2 k (List.mem_range.mpr hk)
  unfold ycell at hc
  split at hc
  · rename_i ht
    rw [show Nat.blt (zC k).1 100 = true from Nat.blt_eq.mpr ht] at ha
    obtain ⟨r, r1, r2, r3⟩ := hc
    unfold zcell
    rw [if_pos ht]
    refine ⟨r, r1, r2, r3.to (fun j hj => ?_)⟩
    have hA := List.all_eq_true.mp ha j (List.mem_range.mpr hj)
    have e : yfv (yg x0 st.2.2) st.2.1 k j (zty (zC k).1 j) = zfv (yg x0 st.2.2) k j (zty (zC k).1 j) := by
      generalize zty (zC k).1 j = ty at hA ⊢
      have hr : yref ty = true → yrv st.2.1 k j = .ref (zRf k j) := fun hy => by
        rw [hy] at hA
        have hA : yA st.2.1 k j = true := hA
        unfold yrv
        rw [hA]
        rfl
      cases ty <;> first | rfl | exact hr rfl
    show zv E _ = zv E _
    rw [e]
  · rename_i ht
    split at hc
    · rename_i ht2
      rw [show Nat.blt (zC k).1 100 = false from (by
        cases hb : Nat.blt (zC k).1 100 with
        | false => rfl
        | true => exact absurd (Nat.blt_eq.mp hb) ht)] at ha
      have hb : zisR (zC k).1 = true := by
        unfold zisR
        rw [Nat.ble_eq_true_of_le ht2.1, Nat.ble_eq_true_of_le (show (zC k).1 ≤ 105 by omega)]
        rfl
      have ha : (List.range (zC k).2).all (fun j => yA st.2.1 k j) = true := by
        have := ha
        rw [hb] at this
        exact this
      unfold zcell
      rw [if_neg ht, if_neg (by omega), if_neg (by omega), if_pos ht2.2, hc]
      refine congrArg some (arrV_to fun j hj => ?_)
      have hA : yA st.2.1 k j = true := List.all_eq_true.mp ha j (List.mem_range.mpr hj)
      unfold yrv
      rw [hA]
      rfl
    · exact hc
/-- what stands when both are made -/
def yFin : yS := match yMake with
  | some st => st
  | none => (0, [], [])
theorem yFin_ok : yEnd yFin = true := by
  have h := yMake_ok
  unfold yFin
  cases hm : yMake with
  | none => rw [hm] at h; cases h
  | some st => rw [hm] at h; exact h
theorem yMid_ok : (match yrun 1000 11 0 [(0, .ref 3)] [] (4, [], []) with | some st => Nat.beq st.1 250 | none => false) = true := by decide +kernel
theorem yMake_parts : ∃ st1 : yS, yrun 1000 11 0 [(0, .ref 3)] [] (4, [], []) = some st1 ∧ st1.1 = 250 ∧ zC st1.1 = (12, 30) ∧ yrun 1000 12 0 [(0, .ref st1.1)] [] (st1.1 + 1, st1.2) = some yFin := by
  have h := yMid_ok
  cases h1 : yrun 1000 11 0 [(0, .ref 3)] [] (4, [], []) with
  | none => rw [h1] at h; cases h
  | some st1 =>
    rw [h1] at h
    have h250 : st1.1 = 250 := Nat.eq_of_beq_eq_true h
    have hz : zC st1.1 = (12, 30) := by rw [h250]; decide +kernel
    refine ⟨st1, rfl, h250, hz, ?_⟩
    have hm := yMake_ok
    have e : yMake = yrun 1000 12 0 [(0, .ref st1.1)] [] (st1.1 + 1, st1.2) := by
      unfold yMake
      rw [h1]
      show cond (decide (zC st1.1 = (12, 30))) _ none = _
      rw [decide_eq_true hz]
      rfl
    rw [← e]
    unfold yFin
    cases h2 : yMake with
    | none => rw [h2] at hm; cases hm
    | some st => rfl
theorem zMs_law : zMs mL_law = kL_law := rfl
theorem zok_law1 : zcut 0 kL_law.2.2.2.1 = none ∧ zcut 18 kL_law.2.2.2.1 = some [0, 1, 2, 3] := by decide +kernel
theorem ylw : decode code 4 = .ok (.invokespecial 9, 3) ∧ decode code 12 = .ok (.invokespecial 12, 3) ∧ zokL "MarkedSweepsLaw" 9 (yIs 11).1 115 0 = true ∧ zokL "MarkedSweepsLaw" 12 (yIs 12).1 1121 0 = true ∧ zcum 350 ≤ 100000 := by decide +kernel
