/-! All nets: split by the neighbours of m. -/
theorem bits_of (g : Nat → Bool) : ∀ n, ∃ x, x < 2 ^ n ∧ ∀ i, i < n → x.testBit i = g i
  | 0 => ⟨0, by simp, fun i hi => by omega⟩
  | n + 1 => by
    obtain ⟨x, hx, h⟩ := bits_of g n
    cases hg : g n with
    | false =>
      refine ⟨x, by rw [Nat.pow_succ]; omega, fun i hi => ?_⟩
      by_cases e : i = n
      · subst e; rw [hg]; exact Nat.testBit_lt_two_pow hx
      · exact h i (by omega)
    | true =>
      refine ⟨2 ^ n + x, by rw [Nat.pow_succ]; omega, fun i hi => ?_⟩
      by_cases e : i = n
      · subst e; rw [hg, Nat.testBit_two_pow_add_eq, Nat.testBit_lt_two_pow hx]; rfl
      · rw [Nat.testBit_two_pow_add_gt (by omega)]; exact h i (by omega)
theorem nbeq_f {a b : Nat} (h : a ≠ b) : Nat.beq a b = false := bf (fun e => h (Nat.eq_of_beq_eq_true e))
theorem nblt_t {a b : Nat} (h : a < b) : Nat.blt a b = true := Nat.ble_eq.mpr h
theorem nblt_f {a b : Nat} (h : ¬ a < b) : Nat.blt a b = false := bf (fun e => h (Nat.ble_eq.mp e))
/-- the path with the bits of x between its ends -/
def fmk (m x : Nat) (i : Nat) : Bool := Nat.beq i 0 || Nat.beq i (m - 1) || (Nat.blt i (m - 1) && x.testBit (i - 1))
section
variable {P : Nat → Prop} {o : Nat → Nat → Nat → Bool} {m : Nat} {T : Nat → Nat → Prop} {f : Nat → Bool}
theorem sw_psm (H : SW P o m T) : PSM P o m (List.range m) T := by
  refine ⟨H.1.1, fun x hx => H.1.2.1 x (sw_m hx), fun h => by have := List.mem_range.mp h; omega, ?_, H.2.1⟩
  intro a b c ha hb hc nab nac nbc h1 h2
  have ha := List.mem_range.mp ha
  have hb := List.mem_range.mp hb
  have hc := List.mem_range.mp hc
  have C := H.1.1
  have hP := H.1.2.1
  have l1 : a < b := by
    apply Classical.byContradiction
    intro hn
    have := H.1.2.2 b a (by omega) ha
    rw [cr4 C (hP m (by omega)) (hP a (by omega)) (hP b (by omega)) (by omega) (by omega) nab, h1] at this
    cases this
  have l2 : b < c := by
    apply Classical.byContradiction
    intro hn
    have := H.1.2.2 c b (by omega) hb
    rw [cr4 C (hP m (by omega)) (hP b (by omega)) (hP c (by omega)) (by omega) (by omega) nbc, h2] at this
    cases this
  exact H.1.2.2 a c (by omega) hc
theorem link_ends (H : SW P o m T) (hm : 2 ≤ m) : T m 0 ∧ T m (m - 1) := by
  have Q := sw_psm H
  refine ⟨ps_first Q (List.mem_range.mpr (by omega)) (fun y hy n => ?_), ps_last Q (List.mem_range.mpr (by omega)) (fun y hy n => ?_)⟩
  · have := List.mem_range.mp hy
    exact H.1.2.2 0 y (by omega) this
  · have := List.mem_range.mp hy
    exact H.1.2.2 y (m - 1) (by omega) (by omega)
theorem link_nx (H : SW P o m T) (hf : ∀ i, f i = true ↔ T m i) {a b : Nat} (h : Cons f a b) : Nx o T m a b := by
  have Q := sw_psm H
  have ta := (hf a).mp h.1
  have tb := (hf b).mp h.2.1
  have bm := List.mem_range.mp (ps_S Q tb).1
  refine ⟨ta, tb, by have := h.2.2.1; omega, H.1.2.2 a b h.2.2.1 bm, fun c hc n1 n2 k1 k2 => ?_⟩
  have cm := List.mem_range.mp (ps_S Q hc).1
  have l1 : a < c := by
    apply Classical.byContradiction
    intro hn
    have := ps_asym Q (List.mem_range.mpr cm) (ps_S Q ta).1 n1 (H.1.2.2 c a (by omega) (by have := h.2.2.1; omega))
    rw [k1] at this; cases this
  have l2 : c < b := by
    apply Classical.byContradiction
    intro hn
    have := ps_asym Q (ps_S Q tb).1 (List.mem_range.mpr cm) n2.symm (H.1.2.2 b c (by omega) cm)
    rw [k2] at this; cases this
  have := h.2.2.2 c l1 l2
  rw [(hf c).mpr hc] at this; cases this
theorem link_path (H : SW P o m T) (hm : 2 ≤ m) (hf : ∀ i, f i = true ↔ T m i) : PathIn T f m := by
  have Q := sw_psm H
  exact ⟨(hf 0).mpr (link_ends H hm).1, (hf _).mpr (link_ends H hm).2, fun i hi => List.mem_range.mp (ps_S Q ((hf i).mp hi)).1, fun a b h => (nx_tri Q (link_nx H hf h)).1⟩
theorem link_abp (H : SW P o m T) (hf : ∀ i, f i = true ↔ T m i) {u : Nat} (hu : u < m) : AbP o f u := by
  have Q := sw_psm H
  by_cases h : T m u
  · exact Or.inl ((hf u).mpr h)
  right
  intro a b hc h1 h2
  have nx := link_nx H hf hc
  have bm := List.mem_range.mp (ps_S Q nx.2.1).1
  have C := H.1.1
  have hP := H.1.2.1
  have pm := hP m (by omega)
  have pa := hP a (by omega)
  have pb := hP b (by omega)
  have pu := hP u (by omega)
  exact bt (fun e => tu1 C (H.1.2.2 a u h1 hu) (H.1.2.2 a b (by omega) bm) (H.1.2.2 u b h2 bm) ((nx_tri Q nx).2 u (sw_l (by omega))) e)
theorem link_sa (H : SW P o m T) (hm : 2 ≤ m) (hf : ∀ i, f i = true ↔ T m i) {u v : Nat} (huv : u < v) (hv : v < m) (ht : T u v) (hn : ¬ SA o f u v) : Cons f u v := by
  apply Classical.byContradiction
  intro hc
  refine hn ⟨fun c hcf h1 h2 => bf (fun e => ?_), link_abp H hf (by omega), link_abp H hf hv, hc⟩
  have C := H.1.1
  have hP := H.1.2.1
  have pm := hP m (by omega)
  have pu := hP u (by omega)
  have pv := hP v (by omega)
  have pc := hP c (by omega)
  have := sw_n H ht ((hf c).mp hcf)
  rw [crs_of (by omega) (by omega) (by omega) (by omega) (by rw [cr1 C pm pu pv (by omega) (by omega) (by omega), H.1.2.2 u v huv hv, cr4 C pu pc pv (by omega) (by omega) (by omega), e]; rfl) (by rw [cr4 C pm pu pc (by omega) (by omega) (by omega), H.1.2.2 u c h1 (by omega), H.1.2.2 c v h2 hv])] at this
  cases this
theorem phi_le : Phi o m f ≤ 2 * (m - 2) := by
  unfold Phi
  rw [Nat.mul_comm]
  refine sumR_c _ (fun i _ => ?_)
  unfold wtA
  cases f (i + 1) with
  | true => show 1 ≤ 2; omega
  | false =>
    cases cdec (AbP o f (i + 1)) with
    | true => exact Nat.le_refl _
    | false => exact Nat.zero_le _
/-- none of those off the path is below it -/
def stC (o : Nat → Nat → Nat → Bool) (m : Nat) (f : Nat → Bool) : Bool := (List.range (m - 2)).all (fun i => f (i + 1) || o (prv f (i + 1)) (i + 1) (nxt f m (i + 1)))
theorem stC_of (H : SW P o m T) (hm : 2 ≤ m) (hf : ∀ i, f i = true ↔ T m i) : stC o m f = true := by
  unfold stC
  rw [List.all_eq_true]
  intro i hi
  have him := List.mem_range.mp hi
  have hp := link_path H hm hf
  cases fc : f (i + 1) with
  | true => rfl
  | false =>
    obtain ⟨a, b, hc, h1, h2, bm⟩ := cons_span hp.1 hp.2.1 (by omega) (by omega) fc
    rw [prv_in hc h1 h2, nxt_in hc h1 h2 bm, abp_b (link_abp H hf (by omega)) hc h1 h2]
    rfl
theorem net_count {α : Type} {E : α → Nat → Nat → Prop} (hm : 2 ≤ m) (ts : List α) (h1 : ∀ t, t ∈ ts → SW P o m (E t)) (h6 : ts.Nodup) (h7 : ∀ s t, s ∈ ts → t ∈ ts → (∀ u v, E s u v → E t u v) → s = t) : ts.length ≤ sumR (fun x => cond (stC o m (fmk m x)) (Gcnt o m (2 * (m - 2)) (fmk m x) 0) 0) (2 ^ (m - 2)) := by
  let spec : α → Nat → Prop := fun t x => x < 2 ^ (m - 2) ∧ ∀ i, fmk m x i = true ↔ E t m i
  have ex : ∀ t, t ∈ ts → ∃ x, spec t x := by
    intro t ht
    obtain ⟨x, hx, hb⟩ := bits_of (fun i => cdec (E t m (i + 1))) (m - 2)
    refine ⟨x, hx, fun i => ?_⟩
    have H := h1 t ht
    have Q := sw_psm H
    by_cases e0 : i = 0
    · subst e0
      exact ⟨fun _ => (link_ends H hm).1, fun _ => by simp [fmk]⟩
    by_cases e1 : i = m - 1
    · subst e1
      exact ⟨fun _ => (link_ends H hm).2, fun _ => by simp [fmk]⟩
    by_cases e2 : i < m - 1
    · have b := hb (i - 1) (by omega)
      have e3 : i - 1 + 1 = i := by omega
      rw [e3] at b
      have e4 : fmk m x i = cdec (E t m i) := by
        unfold fmk
        rw [b, nbeq_f e0, nbeq_f e1, nblt_t e2]
        rfl
      rw [e4]
      exact ⟨fun h => cdec_of h, fun h => cdec_t h⟩
    · have e4 : fmk m x i = false := by
        unfold fmk
        rw [nbeq_f e0, nbeq_f e1, nblt_f e2]
        rfl
      rw [e4]
      refine ⟨fun h => (nomatch h), fun h => ?_⟩
      have := List.mem_range.mp (ps_S Q h).1
      omega
  let ch : α → Nat := fun t => Classical.epsilon (fun x => spec t x)
  have hch : ∀ t, t ∈ ts → spec t (ch t) := fun t ht => Classical.epsilon_spec (ex t ht)
  rw [split_len ch ts (2 ^ (m - 2)) (fun t ht => (hch t ht).1)]
  refine sumR_le _ (fun x _ => ?_)
  have sub : ∀ t, t ∈ ts.filter (fun t => decide (ch t = x)) → t ∈ ts ∧ ∀ i, fmk m x i = true ↔ E t m i := by
    intro t ht
    obtain ⟨ht1, ht2⟩ := List.mem_filter.mp ht
    have ht2 : ch t = x := of_decide_eq_true ht2
    have := (hch t ht1).2
    rw [ht2] at this
    exact ⟨ht1, this⟩
  have hst : ts.filter (fun t => decide (ch t = x)) ≠ [] → stC o m (fmk m x) = true := by
    intro hne
    cases hl : ts.filter (fun t => decide (ch t = x)) with
    | nil => exact (hne hl).elim
    | cons t0 r =>
      have m0 : t0 ∈ ts.filter (fun t => decide (ch t = x)) := by rw [hl]; exact List.mem_cons_self
      exact stC_of (h1 t0 (sub t0 m0).1) hm (sub t0 m0).2
  by_cases hne : ts.filter (fun t => decide (ch t = x)) = []
  · rw [hne]; exact Nat.zero_le _
  rw [hst hne]
  refine cnt hm _ _ _ _ (P := P) (E := E) ⟨fun t ht => h1 t (sub t ht).1, fun t ht => link_path (h1 t (sub t ht).1) hm (sub t ht).2, fun t ht c _ => Nat.zero_le _, ?_, ?_, h6.filter _, fun s t hs ht => h7 s t (sub s hs).1 (sub t ht).1⟩ phi_le
  · intro s t hs ht u v huv hv he hn
    exact (link_path (h1 t (sub t ht).1) hm (sub t ht).2).2.2.2 u v (link_sa (h1 s (sub s hs).1) hm (sub s hs).2 huv hv he hn)
  · intro s t hs ht i he
    exact ((sub t ht).2 i).mp (((sub s hs).2 i).mpr he)
end
