/-! Splits of a polygon: the reference's count and the class's. -/
noncomputable def canP (X Y : Nat → Int) (c : Nat → Nat) (m : Nat) : Nat := mkM (fun e => cdec (∃ k l, k < l ∧ l < m ∧ riB X Y c m (c k) (c l) = true ∧ e = eN (c k) (c l))) 36
noncomputable def DcN (X Y : Nat → Int) (c : Nat → Nat) (m : Nat) : Nat → Nat → Bool := jdB (oXY (eX (fun j => X (ccN X Y c m j)) m) (eY (fun j => Y (ccN X Y c m j)) m)) m
section
variable {X Y : Nat → Int} {n m : Nat} {c : Nat → Nat}
theorem cc_or (X Y : Nat → Int) (c : Nat → Nat) (m : Nat) : ccN X Y c m = c ∨ ccN X Y c m = fun j => c (m - 1 - j) := by
  cases q : decide (0 ≤ arS X Y c m) with
  | true => exact Or.inl (funext (fun j => by unfold ccN; rw [q]; rfl))
  | false => exact Or.inr (funext (fun j => by unfold ccN; rw [q]; rfl))
theorem cc_cor (hc : Cor n m c) : Cor n m (ccN X Y c m) := by
  rcases cc_or X Y c m with e | e
  · rw [e]; exact hc
  · rw [e]; exact cor_rev hc
theorem can_one (hG : GP X Y n) (hn : n ≤ 9) (hc : Cor n m c) (e : Nat) : (∃ k l, k < l ∧ l < m ∧ riB X Y c m (c k) (c l) = true ∧ e = eN (c k) (c l)) → ∃ k l, k < l ∧ l < m ∧ riB X Y (fun j => c (m - 1 - j)) m (c (m - 1 - k)) (c (m - 1 - l)) = true ∧ e = eN (c (m - 1 - k)) (c (m - 1 - l)) := by
  intro ⟨k, l, h1, h2, h3, h4⟩
  have kn := hc.2.1 k (by omega)
  have ln := hc.2.1 l h2
  have ne : c k ≠ c l := fun z => by have := hc.2.2 _ _ (by omega) h2 z; omega
  refine ⟨m - 1 - l, m - 1 - k, by omega, by omega, ?_, ?_⟩
  · rw [show m - 1 - (m - 1 - l) = l from by omega, show m - 1 - (m - 1 - k) = k from by omega, ri_rev hG hc ln kn, ri_sym hG hc kn ln ne]
    exact h3
  · rw [show m - 1 - (m - 1 - l) = l from by omega, show m - 1 - (m - 1 - k) = k from by omega, eN_sy (by omega) (by omega) ne]
    exact h4
theorem can_rev (hG : GP X Y n) (hn : n ≤ 9) (hc : Cor n m c) (e : Nat) : (∃ k l, k < l ∧ l < m ∧ riB X Y c m (c k) (c l) = true ∧ e = eN (c k) (c l)) ↔ ∃ k l, k < l ∧ l < m ∧ riB X Y (fun j => c (m - 1 - j)) m (c (m - 1 - k)) (c (m - 1 - l)) = true ∧ e = eN (c (m - 1 - k)) (c (m - 1 - l)) := by
  refine ⟨can_one hG hn hc e, fun q => ?_⟩
  obtain ⟨k, l, h1, h2, h3, h4⟩ := can_one hG hn (cor_rev hc) e q
  have kn := hc.2.1 k (by omega)
  have ln := hc.2.1 l h2
  rw [ri_rev hG (cor_rev hc) (hc.2.1 _ (by omega)) (hc.2.1 _ (by omega)), ri_rev hG hc (hc.2.1 _ (by omega)) (hc.2.1 _ (by omega))] at h3
  rw [show m - 1 - (m - 1 - l) = l from by omega, show m - 1 - (m - 1 - k) = k from by omega] at h3 h4
  exact ⟨k, l, h1, h2, h3, h4⟩
theorem can_cc (hG : GP X Y n) (hn : n ≤ 9) (hc : Cor n m c) (e : Nat) : (canP X Y c m).testBit e = true ↔ ∃ k l, k < l ∧ l < m ∧ riB X Y (ccN X Y c m) m (ccN X Y c m k) (ccN X Y c m l) = true ∧ e = eN (ccN X Y c m k) (ccN X Y c m l) := by
  have a : (canP X Y c m).testBit e = true ↔ ∃ k l, k < l ∧ l < m ∧ riB X Y c m (c k) (c l) = true ∧ e = eN (c k) (c l) := by
    unfold canP
    rw [mkM_at, Bool.and_eq_true, decide_eq_true_iff]
    refine ⟨fun q => cdec_of q.2, fun q => ⟨?_, cdec_t q⟩⟩
    obtain ⟨k, l, h1, h2, h3, h4⟩ := q
    have kn := hc.2.1 k (by omega)
    have ln := hc.2.1 l h2
    have ne : c k ≠ c l := fun z => by have := hc.2.2 _ _ (by omega) h2 z; omega
    rw [h4]
    exact eN_lt (by omega) (by omega) ne
  rw [a]
  rcases cc_or X Y c m with z | z
  · rw [z]
  · rw [z]
    exact can_rev hG hn hc e
theorem spl_count (hN : Near X Y n) (hG : GP X Y n) (hd : Dist X Y n) (hn : n ≤ 9) (hc : Cor n m c) (hs : SOK X Y m c) : (LSt (canP X Y c m) 0 0 (crM X Y n) 36 0).length = SCD m (DcN X Y c m) 9 0 (m - 1) := by
  have G := cls_G hN hG hd hn hc hs
  have C := cc_cor (X := X) (Y := Y) hc
  have h3 := hc.1
  refine spl_len (E := fun k l => eN (ccN X Y c m k) (ccN X Y c m l)) jd_dok (fun k l h1 h2 => ?_) (jd_apd G.1 G.2) h3.1 (by omega) (fun e => ?_) (fun k l k' l' d d' => ?_)
  · have kn := C.2.1 k (by omega)
    have ln := C.2.1 l h2
    have ne : ccN X Y c m k ≠ ccN X Y c m l := fun z => by have := C.2.2 _ _ (by omega) h2 z; omega
    refine ⟨eN_lt (by omega) (by omega) ne, fun k' l' h1' h2' e => ?_⟩
    have kn' := C.2.1 k' (by omega)
    have ln' := C.2.1 l' h2'
    have ne' : ccN X Y c m k' ≠ ccN X Y c m l' := fun z => by have := C.2.2 _ _ (by omega) h2' z; omega
    rcases eN_inj (by omega) (by omega) ne (by omega) (by omega) ne' e with z | z
    · exact ⟨C.2.2 _ _ (by omega) (by omega) z.1, C.2.2 _ _ (by omega) (by omega) z.2⟩
    · have e1 := C.2.2 _ _ (by omega) (by omega) z.1
      have e2 := C.2.2 _ _ (by omega) (by omega) z.2
      omega
  · rw [can_cc hG hn hc e]
    constructor
    · intro ⟨k, l, h1, h2, q, e1⟩
      exact ⟨k, l, cdec_t ((ri_jd C G.1 G.2 h1 h2).mp q), e1⟩
    · intro ⟨k, l, q, e1⟩
      have J := cdec_of q
      exact ⟨k, l, by have := J.1; omega, J.1.2.1, (ri_jd C G.1 G.2 (by have := J.1; omega) J.1.2.1).mpr J, e1⟩
  · have J := cdec_of d
    have J' := cdec_of d'
    have a := J.1
    have a' := J'.1
    have ne : ccN X Y c m k ≠ ccN X Y c m l := fun z => by have := C.2.2 _ _ (by omega) (by omega) z; omega
    have ne' : ccN X Y c m k' ≠ ccN X Y c m l' := fun z => by have := C.2.2 _ _ (by omega) (by omega) z; omega
    rw [cr_uv hG hn (C.2.1 k (by omega)) (C.2.1 l (by omega)) (C.2.1 k' (by omega)) (C.2.1 l' (by omega)) ne ne', ← crs_re (r := ccN X Y c m) C.2.2 (by omega) (by omega) (by omega) (by omega), ← crs_e (m := m) (by omega) (by omega) (by omega) (by omega)]
    exact il_jd G.2 J' J
end
