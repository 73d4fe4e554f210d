/-! Splits of a polygon: how many there are. -/
def ctN (g : Nat) : Nat := [0, 1, 1, 2, 5, 14, 42, 132, 429].getD g 0
theorem ct_chk : ∀ g, g < 9 → 2 ≤ g → sumR (fun k => ctN (k + 1) * ctN (g - k - 1)) (g - 1) ≤ ctN g := by decide
theorem ct_le : ∀ g, g < 9 → ctN g ≤ 429 := by decide
section
variable {m : Nat} {D : Nat → Nat → Bool} {E : Nat → Nat → Nat}
theorem sc_fuel : ∀ d d' i j, i < j → j ≤ i + d → j ≤ i + d' → SCD m D d i j = SCD m D d' i j
  | 0, _, i, j, _, _, _ => by omega
  | d + 1, 0, i, j, _, _, _ => by omega
  | d + 1, d' + 1, i, j, h1, h2, h3 => by
    unfold SCD
    by_cases e : j = i + 1
    · rw [if_pos e, if_pos e]
    · rw [if_neg e, if_neg e]
      cases jnD m D i j with
      | false => rfl
      | true =>
        refine sumR_eq _ (fun k hk => ?_)
        rw [sc_fuel d d' i (i + 1 + k) (by omega) (by omega) (by omega), sc_fuel d d' (i + 1 + k) j (by omega) (by omega) (by omega)]
theorem sc_s (d i j : Nat) : SCD m D (d + 1) i j = if j = i + 1 then 1 else cond (jnD m D i j) (sumR (fun k => SCD m D d i (i + 1 + k) * SCD m D d (i + 1 + k) j) (j - i - 1)) 0 := by
  rw [SCD]
theorem sc_1 {i : Nat} : SCD m D 9 i (i + 1) = 1 := (sc_s 8 i (i + 1)).trans (if_pos rfl)
theorem sc_r {i j : Nat} (h1 : i + 2 ≤ j) (h2 : j ≤ i + 9) : SCD m D 9 i j = cond (jnD m D i j) (sumR (fun k => SCD m D 9 i (i + 1 + k) * SCD m D 9 (i + 1 + k) j) (j - i - 1)) 0 := by
  have f : ∀ d, d = 8 → SCD m D (d + 1) i j = cond (jnD m D i j) (sumR (fun k => SCD m D (d + 1) i (i + 1 + k) * SCD m D (d + 1) (i + 1 + k) j) (j - i - 1)) 0 := fun d hd => by
    have e : sumR (fun k => SCD m D d i (i + 1 + k) * SCD m D d (i + 1 + k) j) (j - i - 1) = sumR (fun k => SCD m D (d + 1) i (i + 1 + k) * SCD m D (d + 1) (i + 1 + k) j) (j - i - 1) := sumR_eq _ (fun k hk => by
      rw [sc_fuel d (d + 1) i (i + 1 + k) (by omega) (by omega) (by omega), sc_fuel d (d + 1) (i + 1 + k) j (by omega) (by omega) (by omega)])
    rw [sc_s, if_neg (by omega), e]
  exact f 8 rfl
theorem sc_ct : ∀ d i j, i < j → j ≤ i + 8 → SCD m D d i j ≤ ctN (j - i)
  | 0, i, j, _, _ => Nat.zero_le _
  | d + 1, i, j, h1, h2 => by
    unfold SCD
    by_cases e : j = i + 1
    · rw [if_pos e, show j - i = 1 from by omega]
      exact Nat.le_refl 1
    · rw [if_neg e]
      cases jnD m D i j with
      | false => exact Nat.zero_le _
      | true =>
        refine Nat.le_trans (sumR_le (k := fun k => ctN (k + 1) * ctN ((j - i) - k - 1)) (j - i - 1) (fun k hk => ?_)) (ct_chk (j - i) (by omega) (by omega))
        have a := sc_ct d i (i + 1 + k) (by omega) (by omega)
        have b := sc_ct d (i + 1 + k) j (by omega) (by omega)
        rw [show i + 1 + k - i = k + 1 from by omega] at a
        rw [show j - (i + 1 + k) = j - i - k - 1 from by omega] at b
        exact Nat.mul_le_mul a b
theorem sc_le {i j : Nat} (h1 : i < j) (h2 : j ≤ i + 8) : SCD m D 9 i j ≤ 429 := Nat.le_trans (sc_ct 9 i j h1 h2) (ct_le (j - i) (by omega))
theorem vld_ts {can : Nat} {cr : Nat → Nat} (hD : DOK m D) (hE : EOK m E) (hm : 3 ≤ m) (hc : ∀ e, can.testBit e = true ↔ ∃ k l, D k l = true ∧ e = E k l) (hx : ∀ k l k' l', D k l = true → D k' l' = true → ((cr (E k l)).testBit (E k' l') = true ↔ IL k l k' l')) (x : Nat) : Vld can 0 0 cr 36 0 x ↔ TSD D E 0 (m - 1) x := by
  constructor
  · intro h
    have x36 : ∀ e, x.testBit e = true → e < 36 := fun e q => by
      refine Decidable.byContradiction (fun z => ?_)
      rw [h.2.1 e (by omega), Nat.zero_testBit] at q
      cases q
    have pr : ∀ e, x.testBit e = true → ∃ k l, 0 ≤ k ∧ l ≤ m - 1 ∧ D k l = true ∧ e = E k l := fun e q => by
      obtain ⟨k, l, e1, e2⟩ := (hc e).mp (h.2.2.1 e (x36 e q) q).1
      have kd := hD k l e1
      exact ⟨k, l, by omega, by omega, e1, e2⟩
    refine ⟨pr, fun d => ((hD _ _ d).2.2 ⟨rfl, rfl⟩).elim, fun k l k' l' dk dk' hk hk' il => ?_, fun k l _ _ dk fr => ?_⟩
    · have kd := hD k l dk
      have kd' := hD k' l' dk'
      rcases Nat.lt_trichotomy (E k l) (E k' l') with z | z | z
      · have q := h.2.2.2.2.1 _ (x36 _ hk) hk _ z hk'
        rw [(hx k l k' l' dk dk').mpr il] at q
        cases q
      · have ee := (hE k l (by omega) kd.2.1).2 k' l' (by omega) kd'.2.1 z
        unfold IL at il
        omega
      · have q := h.2.2.2.2.1 _ (x36 _ hk') hk' _ z hk
        rw [(hx k' l' k l dk' dk).mpr (il.elim (fun y => Or.inr y) (fun y => Or.inl y))] at q
        cases q
    · have kd := hD k l dk
      apply bt
      intro z
      have ne := h.2.2.2.2.2 (E k l) (hE k l (by omega) kd.2.1).1 ((hc _).mpr ⟨k, l, dk, rfl⟩) z
      obtain ⟨i, i1, i2⟩ := and_ne.mp ne
      obtain ⟨k', l', _, _, dk', e⟩ := pr i i2
      rw [e] at i1 i2
      exact fr k' l' dk' i2 ((hx k l k' l' dk dk').mp i1)
  · intro h
    have x36 : ∀ e, x.testBit e = true → e < 36 := fun e q => by
      obtain ⟨k, l, _, _, dk, e1⟩ := h.1 e q
      have kd := hD k l dk
      rw [e1]
      exact (hE k l (by omega) kd.2.1).1
    have xf : ∀ e, 36 ≤ e → x.testBit e = false := fun e he => bf (fun q => by have := x36 e q; omega)
    refine ⟨bit_lt xf, fun i hi => by rw [xf i hi, Nat.zero_testBit], fun k _ q => ⟨?_, Nat.zero_testBit k⟩, fun k _ _ q => (by rw [Nat.zero_testBit] at q; cases q), fun i _ hi j ij hj => ?_, fun e _ ce ne => ?_⟩
    · obtain ⟨k', l', _, _, dk, e1⟩ := h.1 k q
      exact (hc k).mpr ⟨k', l', dk, e1⟩
    · obtain ⟨k, l, _, _, dk, e1⟩ := h.1 i hi
      obtain ⟨k', l', _, _, dk', e2⟩ := h.1 j hj
      rw [e1] at hi ⊢
      rw [e2] at hj ⊢
      exact bf (fun q => h.2.2.1 k l k' l' dk dk' hi hj ((hx k l k' l' dk dk').mp q))
    · obtain ⟨k, l, dk, e1⟩ := (hc e).mp ce
      have kd := hD k l dk
      rw [e1] at ne ⊢
      refine Classical.byContradiction (fun z => ?_)
      refine absurd (h.2.2.2 k l (by omega) (by omega) dk (fun k' l' dk' hk' il => z (and_ne.mpr ⟨E k' l', (hx k l k' l' dk dk').mpr il, hk'⟩))) ?_
      rw [ne]
      decide
theorem spl_len {can : Nat} {cr : Nat → Nat} (hD : DOK m D) (hE : EOK m E) (hA : APD m D) (hm : 3 ≤ m) (hm9 : m ≤ 9) (hc : ∀ e, can.testBit e = true ↔ ∃ k l, D k l = true ∧ e = E k l) (hx : ∀ k l k' l', D k l = true → D k' l' = true → ((cr (E k l)).testBit (E k' l') = true ↔ IL k l k' l')) : (LSt can 0 0 cr 36 0).length = SCD m D 9 0 (m - 1) := by
  have z0 : ∀ i, i < 36 → Nat.testBit 0 i = false := fun i _ => Nat.zero_testBit i
  have J : jnD m D 0 (m - 1) = true := by unfold jnD; rw [decide_eq_true ⟨rfl, rfl⟩]; rfl
  rw [← sd_len (E := E)]
  refine (perm_nd _ _ ((lst_sorted 36 0 (Nat.le_refl _) (by omega) z0).imp (fun q => by omega)) (tr_nd hD hE hA 9 0 (m - 1) (by omega) (by omega) (by omega)) (fun x => ?_)).length_eq
  rw [lst_mem 36 0 x (Nat.le_refl _) (by omega) z0, vld_ts hD hE hm hc hx x, tr_mem hD hE hA 9 0 (m - 1) x (by omega) (by omega) (by omega) (Or.inr J)]
end
