/-! What stands at the start. -/
def spB (k j : Nat) : Bool := (Nat.beq k 3 && Nat.beq j 12) || ((Nat.beq k 219 && Nat.beq j 3) || ((Nat.beq k 226 && Nat.beq j 5) || (((Nat.beq k 242 || (Nat.beq k 244 || (Nat.beq k 246 || Nat.beq k 248))) && Nat.beq j 1) || ((Nat.beq k 250 && Nat.beq j 4) || (Nat.beq k 342 && Nat.blt j 4)))))
theorem yV_chk : yFin.2.2.all (fun e => spB e.1 e.2.1 || decide (e.2.2 = 0)) = true := by decide +kernel
theorem yV_sp : yI yFin.2.2 3 12 = 1 ∧ yI yFin.2.2 219 3 = -1 ∧ yI yFin.2.2 226 5 = -1 ∧ yI yFin.2.2 250 4 = 1 ∧ (∀ q, q < 4 → yI yFin.2.2 (242 + 2 * q) 1 = -1) ∧ ∀ q, q < 4 → yI yFin.2.2 342 q = -1 := by decide +kernel
theorem yI_0 {k j : Nat} (hs : spB k j = false) : ∀ V : List (Nat × Nat × Int32), V.all (fun e => spB e.1 e.2.1 || decide (e.2.2 = 0)) = true → yI V k j = 0
  | [], _ => rfl
  | (a, b, x) :: r, h => by
    rw [List.all_cons, Bool.and_eq_true] at h
    show cond (Nat.beq a k && Nat.beq b j) x (yI r k j) = 0
    cases q : (Nat.beq a k && Nat.beq b j) with
    | false => exact yI_0 hs r h.2
    | true =>
      rw [Bool.and_eq_true] at q
      have e1 := Nat.eq_of_beq_eq_true q.1
      have e2 := Nat.eq_of_beq_eq_true q.2
      have h1 : (spB a b || decide (x = 0)) = true := h.1
      rw [e1, e2, hs, Bool.false_or] at h1
      exact of_decide_eq_true h1
def σ0 : zS := zmk (fun _ => 0) (fun _ _ => 0) 0 0 1 (fun _ => 0) 0 (fun _ _ => 0) (fun _ => -1) (fun _ => 0) (fun _ _ => 0)
theorem wf_0 : Wf (fun _ => 0) := by
  have n0 : nS (fun _ => 0) = 0 := rfl
  refine ⟨rfl, ⟨by rw [n0]; omega, fun i hi => ?_, fun a b c ha => ?_, fun a b ha => ?_, fun i _ => ⟨?_, ?_⟩⟩, fun e _ => ⟨Or.inl rfl, fun _ => rfl⟩, fun e f _ _ q => ?_, 0, by omega, rfl⟩
  · rw [n0] at hi; omega
  · rw [n0] at ha; omega
  · rw [n0] at ha; omega
  · unfold XS
    rw [n0, if_neg (by omega)]
  · unfold YS
    rw [n0, if_neg (by omega)]
  · exact absurd (show (0 : Int32) = 1 from q) (by decide)
theorem wfs_0 : Wfs σ0 := ⟨wf_0, fun _ _ => wf_0, by decide, by decide, by decide, fun _ _ => ⟨Nat.zero_le _, Or.inl rfl⟩⟩
theorem mM_0 {v : Int32} (hv : v ≠ 0) : mM (fun _ => 0) v = 0 := bit_ext (n := 36) (mM_lt _ _) (Nat.two_pow_pos 36) (fun e he => by rw [mM_at he, Nat.zero_testBit]; exact decide_eq_false (fun z => hv z.symm))
section
variable {x0 : Nat → Int32}
theorem st_V {k j : Nat} {V : List (Nat × Nat × Int32)} (h0 : k ≠ 0) : (yg x0 V).1 k j = yI V k j := by
  show cond (Nat.beq k 0) (x0 j) (yI V k j) = _
  rw [beq_d, decide_eq_false h0]; rfl
theorem st_1 {k j : Nat} (h0 : k ≠ 0) : (yg x0 yFin.2.2).1 k j = yI yFin.2.2 k j := st_V h0
theorem st_0 {k j : Nat} (h0 : k ≠ 0) (hs : spB k j = false) : (yg x0 yFin.2.2).1 k j = 0 := (st_V h0).trans (yI_0 hs _ yV_chk)
theorem sp_f {k j : Nat} (h : ¬ (k = 3 ∧ j = 12) ∧ ¬ (k = 219 ∧ j = 3) ∧ ¬ (k = 226 ∧ j = 5) ∧ ¬ ((k = 242 ∨ k = 244 ∨ k = 246 ∨ k = 248) ∧ j = 1) ∧ ¬ (k = 250 ∧ j = 4) ∧ ¬ (k = 342 ∧ j < 4)) : spB k j = false := by
  cases z : spB k j with
  | false => rfl
  | true =>
    unfold spB at z
    simp only [Bool.or_eq_true, Bool.and_eq_true, Nat.beq_eq, Nat.blt_eq] at z
    omega
theorem st_z {k j : Nat} (h0 : k ≠ 0) (h : ¬ (k = 3 ∧ j = 12) ∧ ¬ (k = 219 ∧ j = 3) ∧ ¬ (k = 226 ∧ j = 5) ∧ ¬ ((k = 242 ∨ k = 244 ∨ k = 246 ∨ k = 248) ∧ j = 1) ∧ ¬ (k = 250 ∧ j = 4) ∧ ¬ (k = 342 ∧ j < 4)) : (yg x0 yFin.2.2).1 k j = 0 := st_0 h0 (sp_f h)
theorem cbo_0 {o : Nat} (ho : 4 ≤ o) (h2 : o ≤ 210) : CBo (yg x0 yFin.2.2) o (fun _ => 0) := by
  refine ⟨st_z (by omega) (by omega), st_z (by omega) (by omega), fun i _ => ⟨st_z (by omega) (by omega), st_z (by omega) (by omega)⟩, fun i _ => ⟨st_z (by omega) (by omega), st_z (by omega) (by omega)⟩, ?_, ?_⟩
  · rw [mM_0 (by decide)]; rfl
  · rw [mM_0 (by decide)]; rfl
theorem ci_start : CI (yg x0 yFin.2.2) σ0 0 := by
  obtain ⟨v1, v2, v3, v4, v5, v6⟩ := yV_sp
  refine ⟨⟨cbo_0 (by omega) (by omega), fun i hi => cbo_0 (by omega) (by omega), ⟨st_z (by omega) (by omega), st_z (by omega) (by omega)⟩, ?_, fun k hk => st_z (by omega) (by omega), ⟨st_z (by omega) (by omega), fun i hi => absurd hi (Nat.not_lt_zero i)⟩, fun q hq => ⟨?_, st_z (by omega) (by omega), fun i _ => rfl⟩⟩, 0, fun _ => 0, fun _ => 0, ?_, ?_, 0, -1, ?_, by omega, by omega, ?_, by omega, by omega, -1, ?_, by omega, by omega, fun z => by omega⟩
  · rw [st_1 (by omega)]; exact v1
  · rw [st_1 (by omega)]; exact v5 q hq
  · refine ⟨⟨by omega, st_z (by omega) (by omega), fun i hi => absurd hi (Nat.not_lt_zero i)⟩, ⟨by omega, fun i hi => absurd hi (Nat.not_lt_zero i), fun a b c ha => absurd ha (Nat.not_lt_zero a), fun a b ha => absurd ha (Nat.not_lt_zero a), fun i _ => ⟨rfl, rfl⟩⟩, fun i hi => absurd hi (Nat.not_lt_zero i), fun i hi => absurd hi (Nat.not_lt_zero i), fun a b ha => absurd ha (Nat.not_lt_zero a), fun e he => ?_, 0, fun _ => 0, Or.inl ⟨rfl, rfl⟩, st_z (by omega) (by omega), st_z (by omega) (by omega), fun k hk => absurd hk (Nat.not_lt_zero k)⟩
    have : crM (fun _ => 0) (fun _ => 0) 0 e = 0 := bit_ext (n := 36) (crM_lt _) (Nat.two_pow_pos 36) (fun f hf => by
      rw [crM_at hf, Nat.zero_testBit, decide_eq_false (Nat.not_lt_zero _)]; rfl)
    rw [this]; rfl
  · refine ⟨0, 0, rfl, rfl, by decide, by decide, fun z => ?_⟩
    rw [st_1 (by omega), v2, st_z (by omega) (by omega)] at z
    exact absurd z (by decide)
  · exact st_z (by omega) (by omega)
  · rw [st_1 (by omega), v2]; rfl
  · rw [st_1 (by omega), v3]; rfl
theorem ri_start : RI (yg x0 yFin.2.2) σ0 := by
  obtain ⟨v1, v2, v3, v4, v5, v6⟩ := yV_sp
  refine ⟨⟨fun k _ => st_z (by omega) (by omega), fun i hi k _ => st_z (by omega) (by omega), ⟨st_z (by omega) (by omega), st_z (by omega) (by omega)⟩, ?_, fun k hk => st_z (by omega) (by omega), ⟨st_z (by omega) (by omega), fun i hi => absurd hi (Nat.not_lt_zero i)⟩, fun q hq => ⟨?_, st_z (by omega) (by omega), fun i _ => rfl⟩⟩, Or.inl (st_z (by omega) (by omega))⟩
  · rw [st_1 (by omega)]; exact v4
  · rw [st_1 (by omega)]; exact v6 q hq
end
theorem zHolds_of (hsp : ∀ a, PairK isI (fun g => zev mX11_splits 0 [.ref 3, .int a] g) (fun g => zev mX12_splits 0 [.ref 250, .int a] g)) : zHolds := by
  intro x0 h0 h1
  obtain ⟨len, l3, el⟩ := i_small (k := 3072) h0 h1 (by omega)
  exact lw_loop hsp l3 len 0 0 (yg x0 yFin.2.2) σ0 (by omega) (by omega) (by omega) ⟨wfs_0, ci_start, ri_start⟩ (by
    show (x0 5000).toNatClampNeg = len
    rw [el]; exact nI_clamp (by omega))
