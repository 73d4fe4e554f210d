/-! Nets as sets of edges told in a number. -/
def mkM (p : Nat → Bool) : Nat → Nat
  | 0 => 0
  | k + 1 => mkM p k ||| cond (p k) (2 ^ k) 0
theorem mkM_at (p : Nat → Bool) (i : Nat) : ∀ n, (mkM p n).testBit i = (decide (i < n) && p i)
  | 0 => by simp [mkM]
  | k + 1 => by
    unfold mkM
    rw [Nat.testBit_or, mkM_at p i k]
    by_cases e : i = k
    · subst e
      rw [decide_eq_false (Nat.lt_irrefl i), decide_eq_true (Nat.lt_succ_self i)]
      cases p i with
      | false => simp
      | true => simp [Nat.testBit_two_pow_self]
    · have h2 : (cond (p k) (2 ^ k) 0).testBit i = false := by
        cases p k with
        | false => simp
        | true => exact Nat.testBit_two_pow_of_ne (Ne.symm e)
      rw [h2, Bool.or_false]
      congr 1
      by_cases q : i < k
      · rw [decide_eq_true q, decide_eq_true (by omega : i < k + 1)]
      · rw [decide_eq_false q, decide_eq_false (by omega : ¬ i < k + 1)]
theorem mkM_lt (p : Nat → Bool) (n : Nat) : mkM p n < 2 ^ n := bit_lt (fun i hi => by rw [mkM_at, decide_eq_false (by omega : ¬ i < n)]; rfl)
def canM (n : Nat) : Nat := mkM (fun e => Nat.blt (eHi e) n) 36
def crM (X Y : Nat → Int) (n e : Nat) : Nat := mkM (fun f => Nat.blt (eHi e) n && (Nat.blt (eHi f) n && crs (oXY X Y) (eLo e) (eHi e) (eLo f) (eHi f))) 36
/-- u and v are joined in x -/
def Em (x u v : Nat) : Prop := u < 9 ∧ v < 9 ∧ u ≠ v ∧ x.testBit (eN u v) = true
section
variable {X Y : Nat → Int} {n : Nat}
theorem can_at {e : Nat} (he : e < 36) : (canM n).testBit e = decide (eHi e < n) := by
  unfold canM
  rw [mkM_at, decide_eq_true he, blt_d]; rfl
theorem can_uv {u v : Nat} (hu : u < 9) (hv : v < 9) (nuv : u ≠ v) : (canM n).testBit (eN u v) = (decide (u < n) && decide (v < n)) := by
  obtain ⟨h1, h2, h3, h4, _⟩ := edge_at hu hv nuv
  rw [can_at h1, h4]
  by_cases a : u < n
  · by_cases b : v < n
    · rw [decide_eq_true a, decide_eq_true b, decide_eq_true (by omega : max u v < n)]; rfl
    · rw [decide_eq_true a, decide_eq_false b, decide_eq_false (by omega : ¬ max u v < n)]; rfl
  · rw [decide_eq_false a, decide_eq_false (by omega : ¬ max u v < n)]; rfl
theorem crM_lt (e : Nat) : crM X Y n e < 2 ^ 36 := mkM_lt _ _
theorem crM_at {e f : Nat} (hf : f < 36) : (crM X Y n e).testBit f = (decide (eHi e < n) && (decide (eHi f < n) && crs (oXY X Y) (eLo e) (eHi e) (eLo f) (eHi f))) := by
  unfold crM
  rw [mkM_at, decide_eq_true hf, blt_d, blt_d]; rfl
/-- crossing, the ends in any order -/
theorem crs_norm (h : GP X Y n) {a b c d : Nat} (ha : a < n) (hb : b < n) (hc : c < n) (hd : d < n) (nab : a ≠ b) (ncd : c ≠ d) : crs (oXY X Y) (min a b) (max a b) (min c d) (max c d) = crs (oXY X Y) a b c d := by
  have C := cc_xy h
  by_cases q1 : a < b
  · rw [Nat.min_eq_left (by omega), Nat.max_eq_right (by omega : a ≤ b)]
    by_cases q2 : c < d
    · rw [Nat.min_eq_left (by omega), Nat.max_eq_right (by omega : c ≤ d)]
    · rw [Nat.min_eq_right (by omega), Nat.max_eq_left (by omega : d ≤ c)]
      exact crs_r C ha hb hc hd ncd
  · rw [Nat.min_eq_right (by omega), Nat.max_eq_left (by omega : b ≤ a)]
    by_cases q2 : c < d
    · rw [Nat.min_eq_left (by omega), Nat.max_eq_right (by omega : c ≤ d)]
      exact crs_l C ha hb hc hd nab
    · rw [Nat.min_eq_right (by omega), Nat.max_eq_left (by omega : d ≤ c), crs_l C ha hb hd hc nab]
      exact crs_r C ha hb hc hd ncd
theorem cr_uv (h : GP X Y n) (hn : n ≤ 9) {a b c d : Nat} (ha : a < n) (hb : b < n) (hc : c < n) (hd : d < n) (nab : a ≠ b) (ncd : c ≠ d) : (crM X Y n (eN a b)).testBit (eN c d) = crs (oXY X Y) a b c d := by
  obtain ⟨h1, h2, h3, h4, _⟩ := edge_at (i := a) (j := b) (by omega) (by omega) nab
  obtain ⟨k1, k2, k3, k4, _⟩ := edge_at (i := c) (j := d) (by omega) (by omega) ncd
  rw [crM_at k1, h3, h4, k3, k4, crs_norm h ha hb hc hd nab ncd, decide_eq_true (by omega : max a b < n), decide_eq_true (by omega : max c d < n)]
  rfl
/-- a set of edges as a net -/
theorem net_vld (h : GP X Y n) (hn : n ≤ 9) (must barred t : Nat) (hm : ∀ k, must.testBit k = true → (canM n).testBit k = true) : Vld (canM n) must barred (crM X Y n) 36 0 t ↔ (t < 2 ^ 36 ∧ Net (oXY X Y) (List.range n) (Em t) ∧ (∀ k, must.testBit k = true → t.testBit k = true) ∧ ∀ k, barred.testBit k = true → t.testBit k = false) := by
  have C := cc_xy h
  have t36 : ∀ {t k}, t < 2 ^ 36 → 36 ≤ k → t.testBit k = false := fun ht hk => Nat.testBit_lt_two_pow (Nat.lt_of_lt_of_le ht (Nat.pow_le_pow_right (by omega) hk))
  have c36 : canM n < 2 ^ 36 := mkM_lt _ _
  constructor
  · intro ⟨h1, h2, h3, h4, h5, h6⟩
    have hin : ∀ {a b}, Em t a b → a < n ∧ b < n := by
      intro a b ⟨a9, b9, nab, hab⟩
      have := (h3 _ (eN_lt a9 b9 nab) hab).1
      rw [can_uv a9 b9 nab, Bool.and_eq_true] at this
      exact ⟨of_decide_eq_true this.1, of_decide_eq_true this.2⟩
    refine ⟨h1, ⟨?_, ?_, ?_⟩, ?_, ?_⟩
    · intro a b hab
      obtain ⟨an, bn⟩ := hin hab
      obtain ⟨a9, b9, nab, hb⟩ := hab
      exact ⟨List.mem_range.mpr an, List.mem_range.mpr bn, nab, b9, a9, nab.symm, by rw [eN_sy a9 b9 nab]; exact hb⟩
    · intro a b c d hab hcd
      obtain ⟨an, bn⟩ := hin hab
      obtain ⟨cn, dn⟩ := hin hcd
      obtain ⟨a9, b9, nab, hb⟩ := hab
      obtain ⟨c9, d9, ncd, hd⟩ := hcd
      have e1 := eN_lt a9 b9 nab
      have e2 := eN_lt c9 d9 ncd
      rcases Nat.lt_trichotomy (eN a b) (eN c d) with q | q | q
      · rw [← cr_uv h hn an bn cn dn nab ncd]
        exact h5 _ e1 hb _ q hd
      · rcases eN_inj a9 b9 nab c9 d9 ncd q with ⟨rfl, rfl⟩ | ⟨rfl, rfl⟩
        · exact crs_self _ _
        · exact crs_self2 _ _
      · rw [crs_sw, ← cr_uv h hn cn dn an bn ncd nab]
        exact h5 _ e2 hd _ q hb
    · intro a b ha hb nab hun
      have an := List.mem_range.mp ha
      have bn := List.mem_range.mp hb
      refine ⟨by omega, by omega, nab, ?_⟩
      cases ht : t.testBit (eN a b) with
      | true => rfl
      | false =>
        exfalso
        have e1 := eN_lt (by omega : a < 9) (by omega : b < 9) nab
        have hc : (canM n).testBit (eN a b) = true := by rw [can_uv (by omega) (by omega) nab, decide_eq_true an, decide_eq_true bn]; rfl
        obtain ⟨i, i1, i2⟩ := and_ne.mp (h6 _ e1 hc ht)
        have i36 : i < 36 := by
          apply Classical.byContradiction
          intro q
          rw [t36 h1 (by omega)] at i2; cases i2
        obtain ⟨l1, l2, l3, _, _⟩ := edge_of i36
        have hii : Em t (eLo i) (eHi i) := ⟨by omega, l2, by omega, by rw [l3]; exact i2⟩
        obtain ⟨cn, dn⟩ := hin hii
        have := hun _ _ hii
        rw [← cr_uv h hn an bn cn dn nab (by omega), l3, i1] at this
        cases this
    · intro k hk
      have k36 : k < 36 := by
        apply Classical.byContradiction
        intro q
        have := hm k hk
        rw [t36 c36 (by omega)] at this; cases this
      exact h4 k k36 (hm k hk) hk
    · intro k hk
      cases ht : t.testBit k with
      | false => rfl
      | true =>
        exfalso
        have k36 : k < 36 := by
          apply Classical.byContradiction
          intro q
          rw [t36 h1 (by omega)] at ht; cases ht
        have := (h3 k k36 ht).2
        rw [hk] at this; cases this
  · intro ⟨h1, N, hmu, hba⟩
    have ein : ∀ {k}, k < 36 → t.testBit k = true → Em t (eLo k) (eHi k) := by
      intro k hk ht
      obtain ⟨l1, l2, l3, _, _⟩ := edge_of hk
      exact ⟨by omega, l2, by omega, by rw [l3]; exact ht⟩
    refine ⟨h1, fun i hi => ?_, fun k hk ht => ?_, fun k hk hc hmk => hmu k hmk, fun k hk ht j hj htj => ?_, fun k hk hc ht => ?_⟩
    · rw [t36 h1 hi]; simp
    · obtain ⟨l1, l2, l3, _, _⟩ := edge_of hk
      have := (N.1 _ _ (ein hk ht)).2.1
      refine ⟨by rw [can_at hk]; exact decide_eq_true (List.mem_range.mp this), ?_⟩
      cases hb : barred.testBit k with
      | false => rfl
      | true => rw [hba k hb] at ht; cases ht
    · have j36 : j < 36 := by
        apply Classical.byContradiction
        intro q
        rw [t36 h1 (by omega)] at htj; cases htj
      rw [crM_at j36, N.2.1 _ _ _ _ (ein hk ht) (ein j36 htj)]
      simp
    · obtain ⟨l1, l2, l3, _, _⟩ := edge_of hk
      rw [can_at hk] at hc
      have kn := of_decide_eq_true hc
      apply Classical.byContradiction
      intro hz
      have hz : crM X Y n k &&& t = 0 := Classical.not_not.mp hz
      have : Em t (eLo k) (eHi k) := N.2.2 _ _ (List.mem_range.mpr (by omega)) (List.mem_range.mpr kn) (by omega) (fun c d hcd => by
        obtain ⟨cl, dl, ncd, _⟩ := N.1 c d hcd
        have cn := List.mem_range.mp cl
        have dn := List.mem_range.mp dl
        cases q : crs (oXY X Y) (eLo k) (eHi k) c d with
        | false => rfl
        | true =>
          exfalso
          refine and_eq.mp hz (eN c d) ?_ hcd.2.2.2
          have := cr_uv h hn (a := eLo k) (b := eHi k) (by omega) kn cn dn (by omega) ncd
          rw [l3, q] at this
          exact this)
      have := this.2.2.2
      rw [l3, ht] at this
      cases this
/-- the nets with these marks, rising -/
noncomputable def netL (X Y : Nat → Int) (n must barred : Nat) : List Nat := LSt (canM n) must barred (crM X Y n) 36 0
theorem netL_mem (h : GP X Y n) (hn : n ≤ 9) {must barred t : Nat} (hm : ∀ k, must.testBit k = true → (canM n).testBit k = true) : t ∈ netL X Y n must barred ↔ (t < 2 ^ 36 ∧ Net (oXY X Y) (List.range n) (Em t) ∧ (∀ k, must.testBit k = true → t.testBit k = true) ∧ ∀ k, barred.testBit k = true → t.testBit k = false) := by
  unfold netL
  rw [lst_mem 36 0 t (Nat.le_refl _) (by omega) (fun i _ => by simp), net_vld h hn must barred t hm]
theorem netL_sorted (must barred : Nat) : (netL X Y n must barred).Pairwise (fun x y => x < y) := lst_sorted 36 0 (Nat.le_refl _) (by omega) (fun i _ => by simp)
theorem netL_nodup (must barred : Nat) : (netL X Y n must barred).Nodup := (netL_sorted must barred).imp (fun h => by omega)
theorem em_inj (h : GP X Y n) {s t : Nat} (hs : s < 2 ^ 36) (ht : t < 2 ^ 36) (Ns : Net (oXY X Y) (List.range n) (Em s)) (Nt : Net (oXY X Y) (List.range n) (Em t)) (q : ∀ u v, Em s u v → Em t u v) : s = t := by
  have q2 : ∀ u v, Em t u v → Em s u v := by
    intro u v huv
    obtain ⟨ul, vl, nuv, _⟩ := Nt.1 u v huv
    exact Ns.2.2 u v ul vl nuv (fun c d hcd => Nt.2.1 u v c d huv (q c d hcd))
  refine bit_ext hs ht (fun i hi => ?_)
  obtain ⟨l1, l2, l3, _, _⟩ := edge_of hi
  rw [Bool.eq_iff_iff]
  constructor
  · intro e
    have := q (eLo i) (eHi i) ⟨by omega, l2, by omega, by rw [l3]; exact e⟩
    have := this.2.2.2
    rw [l3] at this; exact this
  · intro e
    have := q2 (eLo i) (eHi i) ⟨by omega, l2, by omega, by rw [l3]; exact e⟩
    have := this.2.2.2
    rw [l3] at this; exact this
theorem netL_len (h : GP X Y n) (hd : Dist X Y n) (h3 : 3 ≤ n) (hn : n ≤ 9) {must barred : Nat} (hm : ∀ k, must.testBit k = true → (canM n).testBit k = true) : (netL X Y n must barred).length ≤ 800 :=
  cnt800 (E := Em) h hd h3 hn _ (fun t ht => ((netL_mem h hn hm).mp ht).2.1) (netL_nodup must barred) (fun s t hs ht q => em_inj h ((netL_mem h hn hm).mp hs).1 ((netL_mem h hn hm).mp ht).1 ((netL_mem h hn hm).mp hs).2.1 ((netL_mem h hn hm).mp ht).2.1 q)
end
