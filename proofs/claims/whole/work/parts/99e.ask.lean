/-! Asking the list, on both sides. -/
theorem spz_ex : ∀ (L : List Nat) (z : Int), L.Pairwise (fun a b => a < b) → ∃ K, K ≤ L.length ∧ ∀ i (h : i < L.length), ((L[i] : Int) < z ↔ i < K)
  | [], z, _ => ⟨0, Nat.le_refl _, fun i h => by simp at h⟩
  | a :: L, z, hp => by
    obtain ⟨h1, h2⟩ := List.pairwise_cons.mp hp
    by_cases q : (a : Int) < z
    · obtain ⟨K, k1, k2⟩ := spz_ex L z h2
      refine ⟨K + 1, by rw [List.length_cons]; omega, fun i h => ?_⟩
      cases i with
      | zero => exact ⟨fun _ => by omega, fun _ => q⟩
      | succ i =>
        have := k2 i (by simpa using h)
        simp only [List.getElem_cons_succ]
        rw [this]
        omega
    · refine ⟨0, Nat.zero_le _, fun i h => ⟨fun k => ?_, fun k => by omega⟩⟩
      exfalso
      cases i with
      | zero => exact q k
      | succ i =>
        have h3 : i < L.length := by simpa using h
        have := h1 L[i] (List.getElem_mem h3)
        simp only [List.getElem_cons_succ] at k
        omega
/-- the number of b in the list, or -1 -/
noncomputable def numL (L : List Nat) (b : Int64) : Int32 := cond (cdec (∃ i, ∃ h : i < L.length, lN L[i] = b)) (nI (Classical.epsilon (fun i => ∃ h : i < L.length, lN L[i] = b))) (-1)
theorem numL_t {L : List Nat} {b : Int64} (hs : L.Pairwise (fun a b => a < b)) (hl : ∀ x, x ∈ L → x < 2 ^ 36) {i : Nat} (h : i < L.length) (e : lN L[i] = b) : numL L b = nI i := by
  have ex : ∃ i, ∃ h : i < L.length, lN L[i] = b := ⟨i, h, e⟩
  unfold numL
  rw [cdec_t ex]
  show nI _ = nI i
  congr 1
  obtain ⟨h', e'⟩ := Classical.epsilon_spec ex
  have x1 := hl _ (List.getElem_mem h)
  have x2 := hl _ (List.getElem_mem h')
  have eq : L[Classical.epsilon (fun i => ∃ h : i < L.length, lN L[i] = b)] = L[i] := (lN_inj (by omega) (by omega)).mp (e'.trans e.symm)
  have nd : L.Nodup := hs.imp (fun h => by omega)
  exact (List.getElem_inj nd).mp eq
theorem numL_f {L : List Nat} {b : Int64} (h : ∀ i (h : i < L.length), lN L[i] ≠ b) : numL L b = -1 := by
  unfold numL
  rw [cdec_f (fun ⟨i, hi, e⟩ => h i hi e)]
  rfl
/-- a list of sets of edges that can stand -/
def LOk (L : List Nat) : Prop := L.length ≤ 800 ∧ L.Pairwise (fun a b => a < b) ∧ ∀ x, x ∈ L → x < 2 ^ 36
section
variable {g : zIJ} {L : List Nat}
theorem at_sp (hL : LOk L) {b : Int64} {K : Nat} (k1 : K ≤ L.length) (k2 : ∀ i (h : i < L.length), ((L[i] : Int) < b.toInt ↔ i < K)) : (∃ h : K < L.length, lN L[K] = b) ∨ ∀ i (h : i < L.length), lN L[i] ≠ b := by
  by_cases q : ∃ h : K < L.length, lN L[K] = b
  · exact Or.inl q
  · right
    intro i hi e
    have x1 := hL.2.2 _ (List.getElem_mem hi)
    have ti : (L[i] : Int) = b.toInt := by rw [← e, lN_toI (by omega)]
    have nlt : ¬ i < K := fun k => by have := (k2 i hi).mpr k; omega
    by_cases c : i = K
    · subst c; exact q ⟨hi, e⟩
    · have hK : K < L.length := by omega
      have := List.pairwise_iff_getElem.mp hL.2.1 K i hK hi (by omega)
      have : ¬ (L[K] : Int) < b.toInt := fun k => by have := (k2 K hK).mp k; omega
      omega
theorem c_find (hL : LOk L) (h : NLd g L) (b : Int64) : zev mX3_find 0 [.ref 219, .long b] g = some (some (.int (numL L b)), g) := by
  obtain ⟨K, k1, k2⟩ := spz_ex L b.toInt hL.2.1
  have l8 := hL.1
  have hv : ∀ i, i < L.length → ((g.2 222 i).toInt < b.toInt ↔ i < K) := by
    intro i hi
    have x1 := hL.2.2 _ (List.getElem_mem hi)
    rw [h.2 i hi, lN_toI (by omega)]
    exact k2 i hi
  rw [uX3_find_0, h.1, c_spot (t := 222) rfl hL.1 k1 hv, zaI_some, h.1]
  rcases at_sp hL k1 k2 with ⟨hK, e⟩ | no
  · rw [decide_eq_false (nI_ge hK (by omega)), zin_n (by omega) (by omega), nI_clamp (by omega), cmp_eq, h.2 K hK, decide_eq_true e, numL_t hL.2.1 hL.2.2 hK e]
    rfl
  · rw [numL_f no]
    by_cases q : K < L.length
    · rw [decide_eq_false (nI_ge q (by omega)), zin_n (by omega) (by omega), nI_clamp (by omega), cmp_eq, h.2 K q, decide_eq_false (no K q)]
      rfl
    · rw [decide_eq_true (nI_le (by omega) (by omega))]
      rfl
theorem r_numberOf (hL : LOk L) (h : RLd g L) (b : Int64) : zev mX12_numberOf 0 [.ref 250, .long b] g = some (some (.int (numL L b)), g) := by
  obtain ⟨K, k1, k2⟩ := spz_ex L b.toInt hL.2.1
  have l8 := hL.1
  rw [uX12_numberOf_0, h.1]
  by_cases e0 : L.length = 0
  · rw [numL_f (fun i hi => by omega), e0]
    show zev mX12_numberOf 10 [.ref 250, .long b, .int 0, .int (-1)] g = _
    rw [uX12_numberOf_10, h.1, e0]
    rfl
  · obtain ⟨N, hN⟩ : ∃ N, L.length = N + 1 := ⟨L.length - 1, by omega⟩
    rw [hN, nI_pred]
    have run : ∀ (d lo hi : Nat), hi - lo ≤ d → lo ≤ hi → hi ≤ N → lo ≤ K → (K ≤ hi ∨ hi = N) → zev mX12_numberOf 10 [.ref 250, .long b, .int (nI lo), .int (nI hi)] g = some (some (.int (numL L b)), g) := by
      intro d
      induction d with
      | zero =>
        intro lo hi hd h1 h2 h3 h4
        have e : lo = hi := by omega
        subst e
        rw [uX12_numberOf_10, decide_eq_true (nI_le (Nat.le_refl lo) (by omega)), h.1, decide_eq_false (nI_nle (by omega) (by omega)), zin_n (by omega) (by omega), nI_clamp (by omega), cmp_eq, h.2 lo (by omega)]
        rcases at_sp hL k1 k2 with ⟨hK, e⟩ | no
        · have : lo = K := by omega
          subst this
          rw [decide_eq_true e, numL_t hL.2.1 hL.2.2 hK e]
          rfl
        · rw [decide_eq_false (no lo (by omega)), numL_f no]
          rfl
      | succ d ih =>
        intro lo hi hd h1 h2 h3 h4
        by_cases q : lo = hi
        · exact ih lo hi (by omega) h1 h2 h3 h4
        · have half : (nI lo + nI hi) / 2 = nI ((lo + hi) / 2) := by
            rw [nI_add]
            show nI (lo + hi) / nI 2 = _
            apply Int32.toInt_inj.mp
            rw [nI_toInt (by omega), Int32.toInt_div, nI_toInt (by omega), nI_toInt (by omega)]
            have : ((lo + hi : Nat) : Int).tdiv (2 : Nat) = (((lo + hi) / 2 : Nat) : Int) := by
              rw [Int.tdiv_eq_ediv_of_nonneg (by omega)]
              omega
            rw [this]
            exact Int.bmod_eq_of_le (by omega) (by omega)
          rw [uX12_numberOf_10, decide_eq_false (nI_ge (by omega : lo < hi) (by omega)), half, zin_n (by omega : (lo + hi) / 2 < 5000) (by omega), nI_clamp (by omega : (lo + hi) / 2 < 2 ^ 31), cmp_ge, h.2 ((lo + hi) / 2) (by omega)]
          have x1 := hL.2.2 _ (List.getElem_mem (by omega : (lo + hi) / 2 < L.length))
          have kk := k2 ((lo + hi) / 2) (by omega)
          rw [lN_toI (by omega)]
          by_cases q2 : (lo + hi) / 2 < K
          · have := kk.mpr q2
            rw [decide_eq_false (show ¬ b.toInt ≤ (L[(lo + hi) / 2] : Int) by omega), nI_1]
            exact ih ((lo + hi) / 2 + 1) hi (by omega) (by omega) h2 (by omega) h4
          · have : ¬ (L[(lo + hi) / 2] : Int) < b.toInt := fun k => q2 (kk.mp k)
            rw [decide_eq_true (show b.toInt ≤ (L[(lo + hi) / 2] : Int) by omega)]
            exact ih lo ((lo + hi) / 2) (by omega) (by omega) (by omega) h3 (Or.inl (by omega))
    exact run N 0 N (by omega) (by omega) (Nat.le_refl _) (by omega) (Or.inr rfl)
/-- how many of the list hold e -/
def cntE (L : List Nat) (e : Nat) : Nat := sumR (fun i => cond ((L.getD i 0).testBit e) 1 0) L.length
theorem getD_at (L : List Nat) (i : Nat) (h : i < L.length) : L.getD i 0 = L[i] := by simp [List.getD, h]
theorem c_holding (hL : LOk L) (h : NLd g L) {e : Nat} (he : e < 36) : zev mX3_holding 0 [.ref 219, .int (nI e)] g = some (some (.int (nI (cntE L e))), g) := by
  have l8 := hL.1
  rw [uX3_holding_0]
  have := zit (F := fun k s => zev mX3_holding 4 [.ref 219, .int (nI e), .int (nI s), .int (nI k)] g) (lo := 0) (n := L.length) (R := fun s => some (some (.int (nI s)), g)) (h := fun k s => s + cond ((L.getD k 0).testBit e) 1 0) (fun k s _ hk => by
    rw [uX3_holding_4, h.1, decide_eq_false (nI_ge hk (by omega)), zin_n (by omega : k < 800) (by omega), nI_clamp (by omega : k < 2 ^ 31), h.2 k hk, c_holds g _ (by omega : e < 64), zaI_some, bI_0, getD_at L k hk]
    simp only [nI_1]
    cases L[k].testBit e <;> rfl) (fun s => by
    rw [uX3_holding_4, h.1, decide_eq_true (nI_le (Nat.le_refl _) (by omega))]; rfl) L.length 0 0 (Nat.le_refl _) (by omega)
  refine Eq.trans this ?_
  have e2 := itr_sum (fun k => cond ((L.getD k 0).testBit e) 1 0) L.length 0
  rw [Nat.zero_add] at e2
  show some (some (Value.int (nI (itr _ L.length 0 0))), g) = _
  rw [show itr (fun k s => s + cond ((L.getD k 0).testBit e) 1 0) L.length 0 0 = cntE L e from e2]
theorem r_with24 (hL : LOk L) (h : RLd g L) {i j : Nat} (hi : i < 9) (hj : j < 9) (nij : i ≠ j) : zev mX12_with 24 [.ref 250, .int (nI i), .int (nI j), .int 0, .int 0] g = some (some (.int (nI (cntE L (eN i j)))), g) := by
  have l8 := hL.1
  have e36 := eN_lt hi hj nij
  have := zit (F := fun k s => zev mX12_with 24 [.ref 250, .int (nI i), .int (nI j), .int (nI s), .int (nI k)] g) (lo := 0) (n := L.length) (R := fun s => some (some (.int (nI s)), g)) (h := fun k s => s + cond ((L.getD k 0).testBit (eN i j)) 1 0) (fun k s _ hk => by
    rw [uX12_with_24, h.1, decide_eq_false (nI_ge hk (by omega)), zin_n (by omega : k < 5000) (by omega), nI_clamp (by omega : k < 2 ^ 31), h.2 k hk, r_edge g hi hj nij, zaI_some, r_has g _ (by omega : eN i j < 64), zaI_some, bI_0, getD_at L k hk]
    simp only [nI_1]
    cases L[k].testBit (eN i j) with
    | true => rfl
    | false =>
      show zev mX12_with 24 [.ref 250, .int (nI i), .int (nI j), .int (nI s + nI 0), .int (nI (k + 1))] g = _
      rw [nI_add]
      rfl) (fun s => by
    rw [uX12_with_24, h.1, decide_eq_true (nI_le (Nat.le_refl _) (by omega))]; rfl) L.length 0 0 (Nat.le_refl _) (by omega)
  refine Eq.trans this ?_
  have e2 := itr_sum (fun k => cond ((L.getD k 0).testBit (eN i j)) 1 0) L.length 0
  rw [Nat.zero_add] at e2
  show some (some (Value.int (nI (itr _ L.length 0 0))), g) = _
  rw [show itr (fun k s => s + cond ((L.getD k 0).testBit (eN i j)) 1 0) L.length 0 0 = cntE L (eN i j) from e2]
end
