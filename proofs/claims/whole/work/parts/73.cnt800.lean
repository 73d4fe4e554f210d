/-! At most 800 nets over nine points. -/
theorem tsg {P : Nat → Prop} {o : Nat → Nat → Nat → Bool} (C : CC P o) {p a b c d : Nat} (h1 : o p a b = true) (h2 : o p a c = true) (h3 : o p a d = true) (h4 : o p b c = true) (h5 : o p b d = true) (h6 : o p c d = true) (h7 : mon4 (o a b c) (o a b d) (o a c d) (o b c d) = false) (pp : P p := by assumption) (pa : P a := by assumption) (pb : P b := by assumption) (pc : P c := by assumption) (pd : P d := by assumption) (npa : p ≠ a := by first | assumption | exact Ne.symm (by assumption) | omega) (npb : p ≠ b := by first | assumption | exact Ne.symm (by assumption) | omega) (npc : p ≠ c := by first | assumption | exact Ne.symm (by assumption) | omega) (npd : p ≠ d := by first | assumption | exact Ne.symm (by assumption) | omega) (nab : a ≠ b := by first | assumption | exact Ne.symm (by assumption) | omega) (nac : a ≠ c := by first | assumption | exact Ne.symm (by assumption) | omega) (nad : a ≠ d := by first | assumption | exact Ne.symm (by assumption) | omega) (nbc : b ≠ c := by first | assumption | exact Ne.symm (by assumption) | omega) (nbd : b ≠ d := by first | assumption | exact Ne.symm (by assumption) | omega) (ncd : c ≠ d := by first | assumption | exact Ne.symm (by assumption) | omega) : False := by
  rcases Bool.eq_false_or_eq_true (o a b c) with k6 | k6
  · skip
    rcases Bool.eq_false_or_eq_true (o a c d) with k7 | k7
    · skip
      have k8 : o a b d = true := bt (fun e => (bl6t (ccG5 C pa pp pb pc pd npa.symm nab nac nad npb npc npd nbc nbd ncd) ((cr3 C pp pa pb npa npb nab).trans (congrArg not h1)) ((cr3 C pp pa pc npa npc nac).trans (congrArg not h2)) ((cr3 C pp pa pd npa npd nad).trans (congrArg not h3)) k6 e k7 rfl))
      exact (Bool.eq_false_or_eq_true (o b c d)).elim (fun e => (bl4f h7 k6 k8 k7 e rfl)) (fun e => (bl4f h7 k6 k8 k7 e rfl))
    · skip
      have k9 : o b c d = false := bf (fun e => (bl6t (ccG5 C pc pp pa pb pd npc.symm nac.symm nbc.symm ncd npa npb npd nab nad nbd) ((cr2 C pp pa pc npa npc nac).trans h2) ((cr2 C pp pb pc npb npc nbc).trans h4) ((cr3 C pp pc pd npc npd ncd).trans (congrArg not h6)) ((cr2 C pa pb pc nab nac nbc).trans k6) ((cr3 C pa pc pd nac nad ncd).trans (congrArg not k7)) ((cr3 C pb pc pd nbc nbd ncd).trans (congrArg not e)) rfl))
      exact (Bool.eq_false_or_eq_true (o a b d)).elim (fun e => (bl4f h7 k6 e k7 k9 rfl)) (fun e => (bl4f h7 k6 e k7 k9 rfl))
  · skip
    rcases Bool.eq_false_or_eq_true (o a c d) with k10 | k10
    · skip
      have k11 : o b c d = true := bt (fun e => (bl6t (ccG5 C pc pp pa pb pd npc.symm nac.symm nbc.symm ncd npa npb npd nab nad nbd) ((cr2 C pp pa pc npa npc nac).trans h2) ((cr2 C pp pb pc npb npc nbc).trans h4) ((cr3 C pp pc pd npc npd ncd).trans (congrArg not h6)) ((cr2 C pa pb pc nab nac nbc).trans k6) ((cr3 C pa pc pd nac nad ncd).trans (congrArg not k10)) ((cr3 C pb pc pd nbc nbd ncd).trans (congrArg not e)) rfl))
      exact (Bool.eq_false_or_eq_true (o a b d)).elim (fun e => (bl4f h7 k6 e k10 k11 rfl)) (fun e => (bl4f h7 k6 e k10 k11 rfl))
    · skip
      have k12 : o a b d = false := bf (fun e => (bl6t (ccG5 C pa pp pb pc pd npa.symm nab nac nad npb npc npd nbc nbd ncd) ((cr3 C pp pa pb npa npb nab).trans (congrArg not h1)) ((cr3 C pp pa pc npa npc nac).trans (congrArg not h2)) ((cr3 C pp pa pd npa npd nad).trans (congrArg not h3)) k6 e k10 rfl))
      exact (Bool.eq_false_or_eq_true (o b c d)).elim (fun e => (bl4f h7 k6 k12 k10 e rfl)) (fun e => (bl4f h7 k6 k12 k10 e rfl))
theorem sg_of {P : Nat → Prop} {o : Nat → Nat → Nat → Bool} {m : Nat} (R : Rad P o m) : Sg o m := by
  intro a b c d h1 h2 h3 h4
  have C := R.1
  have hP := R.2.1
  have pm := hP m (by omega)
  have pa := hP a (by omega)
  have pb := hP b (by omega)
  have pc := hP c (by omega)
  have pd := hP d (by omega)
  have A := R.2.2
  exact bt (fun e => tsg C (A a b h1 (by omega)) (A a c (by omega) (by omega)) (A a d (by omega) h4) (A b c h2 (by omega)) (A b d (by omega) h4) (A c d h3 h4) e)
theorem i3_lt : ∀ t, t ∈ trs6 → (t.2.2 < 7 → i3 t.1 t.2.1 t.2.2 < 20) ∧ (t.2.2 < 6 → i3 t.1 t.2.1 t.2.2 < 10) ∧ (t.2.2 < 5 → i3 t.1 t.2.1 t.2.2 < 4) ∧ (t.2.2 < 4 → i3 t.1 t.2.1 t.2.2 < 1) := by decide
theorem i2_lt : ∀ t, t ∈ prs6 → (t.2 < 7 → i2 t.1 t.2 < 15) ∧ (t.2 < 6 → i2 t.1 t.2 < 10) ∧ (t.2 < 5 → i2 t.1 t.2 < 6) ∧ (t.2 < 4 → i2 t.1 t.2 < 3) ∧ (t.2 < 3 → i2 t.1 t.2 < 1) := by decide
theorem sgB {o : Nat → Nat → Nat → Bool} {m : Nat} (h2 : 2 ≤ m) (h8 : m ≤ 8) (hS : Sg o m) : sumR (fun x => cond (stC o m (fmk m x)) (Gcnt o m (2 * (m - 2)) (fmk m x) 0) 0) (2 ^ (m - 2)) ≤ 800 := by
  have T3 := fun a c b (h1 : 0 < a) (h2 : a < c) (h3 : c < b) (h4 : b < 7) => i3_lt (a, c, b) (trs_mem a (by omega) c (by omega) b h4 h1 h2 h3)
  have T2 := fun a c (h1 : 0 < a) (h2 : a < c) (h3 : c < 7) => i2_lt (a, c) (prs_mem a (by omega) c h3 h1 h2)
  by_cases e2 : m = 2
  · subst e2
    show 0 + cond (stC o 2 (fmk 2 0)) (cond (topC o 2 (fmk 2 0)) 1 0) 0 ≤ 800
    cases stC o 2 (fmk 2 0) <;> cases topC o 2 (fmk 2 0) <;> decide
  by_cases e3 : m = 3
  · subst e3
    exact wBound (nW := 0) (nL := 0) (by omega) (by omega) hS (fun a c b q1 q2 q3 q4 => by omega) (fun a c q1 q2 q3 => by omega) wAll3 wGood3
  by_cases e4 : m = 4
  · subst e4
    exact wBound (nW := 0) (nL := 1) (by omega) (by omega) hS (fun a c b q1 q2 q3 q4 => by omega) (fun a c q1 q2 q3 => (T2 a c q1 q2 (by omega)).2.2.2.2 q3) wAll4 wGood4
  by_cases e5 : m = 5
  · subst e5
    exact wBound (nW := 1) (nL := 3) (by omega) (by omega) hS (fun a c b q1 q2 q3 q4 => (T3 a c b q1 q2 q3 (by omega)).2.2.2 q4) (fun a c q1 q2 q3 => (T2 a c q1 q2 (by omega)).2.2.2.1 q3) wAll5 wGood5
  by_cases e6 : m = 6
  · subst e6
    exact wBound (nW := 4) (nL := 6) (by omega) (by omega) hS (fun a c b q1 q2 q3 q4 => (T3 a c b q1 q2 q3 (by omega)).2.2.1 q4) (fun a c q1 q2 q3 => (T2 a c q1 q2 (by omega)).2.2.1 q3) wAll6 wGood6
  by_cases e7 : m = 7
  · subst e7
    exact wBound (nW := 10) (nL := 10) (by omega) (by omega) hS (fun a c b q1 q2 q3 q4 => (T3 a c b q1 q2 q3 (by omega)).2.1 q4) (fun a c q1 q2 q3 => (T2 a c q1 q2 (by omega)).2.1 q3) wAll7 wGood7
  have e8 : m = 8 := by omega
  subst e8
  exact wBound (nW := 20) (nL := 15) (by omega) (by omega) hS (fun a c b q1 q2 q3 q4 => (T3 a c b q1 q2 q3 (by omega)).1 q4) (fun a c q1 q2 q3 => (T2 a c q1 q2 (by omega)).1 q3) wAll8 wGood8
theorem cnt800 {X Y : Nat → Int} {n : Nat} {α : Type} {E : α → Nat → Nat → Prop} (h : GP X Y n) (hd : Dist X Y n) (hn : 3 ≤ n) (hn9 : n ≤ 9) (ts : List α) (hN : ∀ t, t ∈ ts → Net (oXY X Y) (List.range n) (E t)) (nd : ts.Nodup) (inj : ∀ s t, s ∈ ts → t ∈ ts → (∀ u v, E s u v → E t u v) → s = t) : ts.length ≤ 800 := by
  obtain ⟨l, l1, l2, l3, l4⟩ := xy_sorted hd
  cases l with
  | nil => simp at l2; omega
  | cons p S =>
    have hl : ∀ x, x ∈ p :: S → x < n := fun x hx => List.mem_range.mp ((l3 x).mp hx)
    have hE := (exts_xy h (p :: S) hl l4 l1).1
    obtain ⟨hp, ndS⟩ := List.nodup_cons.mp l1
    have C := cc_xy h
    obtain ⟨s, H, ang⟩ := ex_numb C hl hp ndS hE
    have hlen : S.length = n - 1 := by rw [List.length_cons] at l2; omega
    have R : Rad (fun x => x ≤ S.length) (nbO (oXY X Y) s) S.length := ⟨nb_cc C hl H, fun x hx => hx, ang⟩
    have back : ∀ x, x ∈ List.range n ↔ x ∈ p :: S := fun x => (l3 x).symm
    have hsw : ∀ t, t ∈ ts → SW (fun x => x ≤ S.length) (nbO (oXY X Y) s) S.length (nbM S.length (E t) s) := by
      intro t ht
      have N := net_mem back (hN t ht)
      have F := fp_mem back ((geo_main h hd).1 _ (hN t ht))
      exact ⟨R, nb_net H N, nb_fp H N F⟩
    refine Nat.le_trans (net_count (by omega) ts hsw nd (fun t u ht hu q => inj t u ht hu (fun x y hxy => ?_))) (sgB (by omega) (by omega) (sg_of R))
    have N := net_mem back (hN t ht)
    obtain ⟨xl, yl, _, _⟩ := N.1 x y hxy
    obtain ⟨i, hi, rfl⟩ := nb_sur H xl
    obtain ⟨j, hj, rfl⟩ := nb_sur H yl
    exact (q i j ⟨hi, hj, hxy⟩).2.2
