/-! In some batch there is a world for each way. -/
theorem bitN_eq (x i : Nat) : bitN x i = cond (x.testBit i) 1 0 := by
  unfold bitN
  show (x >>> i) &&& 1 = _
  rw [Nat.and_one_is_mod, Nat.shiftRight_eq_div_pow, Nat.testBit_eq_decide_div_mod_eq]
  by_cases h : x / 2 ^ i % 2 = 1
  · rw [h]; rfl
  · have : x / 2 ^ i % 2 = 0 := by omega
    rw [this]; rfl
theorem bitN_mul (x i n : Nat) : Nat.mul (bitN x i) (2 ^ n - 1) = cond (x.testBit i) (2 ^ n - 1) 0 := by
  show bitN x i * (2 ^ n - 1) = _
  rw [bitN_eq]
  cases x.testBit i <;> simp
theorem cons_lo {h y n p : Nat} (hp : p < n) : (Nat.lor h (Nat.shiftLeft y n)).testBit p = h.testBit p := by
  show (h ||| (y <<< n)).testBit p = _
  rw [Nat.testBit_or, Nat.testBit_shiftLeft, decide_eq_false (by omega : ¬ p ≥ n)]
  simp
theorem cons_hi {h y n q : Nat} (hh : h < 2 ^ n) : (Nat.lor h (Nat.shiftLeft y n)).testBit (n + q) = y.testBit q := by
  show (h ||| (y <<< n)).testBit (n + q) = _
  have h1 : h.testBit (n + q) = false := Nat.testBit_lt_two_pow (Nat.lt_of_lt_of_le hh (Nat.pow_le_pow_right (by omega) (by omega)))
  rw [Nat.testBit_or, Nat.testBit_shiftLeft, h1, decide_eq_true (by omega : n + q ≥ n), show n + q - n = q from by omega]
  simp
theorem cons_bd {h y n k : Nat} (hh : h < 2 ^ n) (hy : y < 2 ^ k) : Nat.lor h (Nat.shiftLeft y n) < 2 ^ (n + k) := by
  refine Nat.or_lt_two_pow (Nat.lt_of_lt_of_le hh (Nat.pow_le_pow_right (by omega) (by omega))) ?_
  show y <<< n < _
  rw [Nat.shiftLeft_eq, Nat.pow_add, Nat.mul_comm]
  exact Nat.mul_lt_mul_of_pos_left hy (Nat.two_pow_pos n)
theorem rep_bd (b : Bool) (n : Nat) : cond b (2 ^ n - 1) 0 < 2 ^ n := by
  have := Nat.two_pow_pos n
  cases b
  · exact this
  · show 2 ^ n - 1 < 2 ^ n; omega
theorem rep_at {b : Bool} {n p : Nat} (hp : p < n) : (cond b (2 ^ n - 1) 0).testBit p = b := by
  cases b
  · simp
  · show (2 ^ n - 1).testBit p = true
    rw [Nat.testBit_two_pow_sub_one]
    exact decide_eq_true hp
theorem wCol_bd (i : Nat) : ∀ rs : List Nat, wCol i rs < 2 ^ rs.length
  | [] => by show 0 < 1; omega
  | r :: rs => by
    have h1 : bitN r i < 2 ^ 1 := by rw [bitN_eq]; cases r.testBit i <;> decide
    have := cons_bd (n := 1) h1 (wCol_bd i rs)
    rw [List.length_cons, Nat.add_comm]
    exact this
theorem wCol_at {r : Nat} : ∀ rs : List Nat, r ∈ rs → ∃ k, k < rs.length ∧ ∀ i, (wCol i rs).testBit k = r.testBit i
  | [], h => by cases h
  | a :: rs, h => by
    by_cases e : r = a
    · subst e
      refine ⟨0, by simp, fun i => ?_⟩
      show (Nat.lor (bitN r i) (Nat.shiftLeft (wCol i rs) 1)).testBit 0 = _
      rw [cons_lo (by omega), bitN_eq]
      cases r.testBit i <;> rfl
    · rcases List.mem_cons.mp h with h | h
      · exact (e h).elim
      · obtain ⟨k, hk, hi⟩ := wCol_at rs h
        refine ⟨1 + k, by rw [List.length_cons]; omega, fun i => ?_⟩
        show (Nat.lor (bitN a i) (Nat.shiftLeft (wCol i rs) 1)).testBit (1 + k) = _
        have h1 : bitN a i < 2 ^ 1 := by rw [bitN_eq]; cases a.testBit i <;> decide
        rw [cons_hi h1]
        exact hi i
theorem wBlk_bd {nr : Nat} {h : Nat → Nat} (hh : ∀ l, h l < 2 ^ nr) : ∀ ls : List Nat, wBlk nr h ls < 2 ^ (ls.length * nr)
  | [] => by show 0 < 2 ^ _; exact Nat.two_pow_pos _
  | l :: ls => by
    have := cons_bd (hh l) (wBlk_bd hh ls)
    rw [List.length_cons, Nat.add_mul, Nat.one_mul, Nat.add_comm]
    exact this
theorem wBlk_at {nr l k : Nat} (hk : k < nr) : ∀ ls : List Nat, l ∈ ls → ∃ p, p < ls.length * nr ∧ ∀ h : Nat → Nat, (∀ l, h l < 2 ^ nr) → (wBlk nr h ls).testBit p = (h l).testBit k
  | [], h => by cases h
  | a :: ls, h => by
    by_cases e : l = a
    · subst e
      refine ⟨k, by rw [List.length_cons, Nat.add_mul]; omega, fun h hh => ?_⟩
      exact cons_lo hk
    · rcases List.mem_cons.mp h with h | h
      · exact (e h).elim
      · obtain ⟨p, hp, hi⟩ := wBlk_at hk ls h
        refine ⟨nr + p, by rw [List.length_cons, Nat.add_mul]; omega, fun h hh => ?_⟩
        exact (cons_hi (hh a)).trans (hi h hh)
theorem wEnt_bd (kind i : Nat) (e : wEn) : wEnt kind i e < 2 ^ wWid e := by
  unfold wEnt wWid
  cases Nat.beq kind 0 with
  | true => show Nat.mul _ _ < _; rw [bitN_mul]; exact rep_bd _ _
  | false =>
    cases Nat.beq kind 1 with
    | true => exact wBlk_bd (fun l => by show Nat.mul _ _ < _; rw [bitN_mul]; exact rep_bd _ _) _
    | false => exact wBlk_bd (fun _ => wCol_bd _ _) _
theorem wEnt_at {e : wEn} {l r : Nat} (hl : l ∈ e.2.1) (hr : r ∈ e.2.2) : ∃ p, p < wWid e ∧ ∀ i, (wEnt 0 i e).testBit p = e.1.testBit i ∧ (wEnt 1 i e).testBit p = l.testBit i ∧ (wEnt 2 i e).testBit p = r.testBit i := by
  obtain ⟨k, hk, hki⟩ := wCol_at e.2.2 hr
  obtain ⟨p, hp, hpi⟩ := wBlk_at hk e.2.1 hl
  refine ⟨p, hp, fun i => ⟨?_, ?_, ?_⟩⟩
  · show (Nat.mul (bitN e.1 i) (2 ^ (e.2.1.length * e.2.2.length) - 1)).testBit p = _
    rw [bitN_mul]
    exact rep_at hp
  · show (wBlk e.2.2.length (fun l => Nat.mul (bitN l i) (2 ^ e.2.2.length - 1)) e.2.1).testBit p = _
    rw [hpi _ (fun l => by show Nat.mul _ _ < _; rw [bitN_mul]; exact rep_bd _ _)]
    show (Nat.mul (bitN l i) (2 ^ e.2.2.length - 1)).testBit k = _
    rw [bitN_mul]
    exact rep_at hk
  · show (wBlk e.2.2.length (fun _ => wCol i e.2.2) e.2.1).testBit p = _
    rw [hpi _ (fun _ => wCol_bd _ _)]
    exact hki i
theorem wAll_bd (kind i : Nat) : ∀ es : List wEn, wAll kind i es < 2 ^ wLen es
  | [] => by show 0 < 2 ^ _; exact Nat.two_pow_pos _
  | e :: es => cons_bd (wEnt_bd kind i e) (wAll_bd kind i es)
theorem wAll_at {e : wEn} {l r : Nat} (hl : l ∈ e.2.1) (hr : r ∈ e.2.2) : ∀ es : List wEn, e ∈ es → ∃ p, p < wLen es ∧ ∀ i, (wAll 0 i es).testBit p = e.1.testBit i ∧ (wAll 1 i es).testBit p = l.testBit i ∧ (wAll 2 i es).testBit p = r.testBit i
  | [], h => by cases h
  | a :: es, h => by
    rcases List.mem_cons.mp h with h | h
    · subst h
      obtain ⟨p, hp, hi⟩ := wEnt_at hl hr
      refine ⟨p, ?_, fun i => ⟨?_, ?_, ?_⟩⟩
      · show p < wWid e + wLen es; omega
      · exact (cons_lo hp).trans (hi i).1
      · exact (cons_lo hp).trans (hi i).2.1
      · exact (cons_lo hp).trans (hi i).2.2
    · obtain ⟨p, hp, hi⟩ := wAll_at hl hr es h
      refine ⟨wWid a + p, ?_, fun i => ⟨?_, ?_, ?_⟩⟩
      · show wWid a + p < wWid a + wLen es; omega
      · exact (cons_hi (wEnt_bd 0 i a)).trans (hi i).1
      · exact (cons_hi (wEnt_bd 1 i a)).trans (hi i).2.1
      · exact (cons_hi (wEnt_bd 2 i a)).trans (hi i).2.2
theorem wTile_at {W v p : Nat} (hv : v < 2 ^ W) (hp : p < W) : ∀ n t, t < n → (wTile W v n).testBit (t * W + p) = v.testBit p
  | 0, t, h => by omega
  | n + 1, 0, _ => by
    unfold wTile
    rw [Nat.zero_mul, Nat.zero_add]
    exact cons_lo hp
  | n + 1, t + 1, h => by
    unfold wTile
    rw [Nat.add_mul, Nat.one_mul, show t * W + W + p = W + (t * W + p) from by omega]
    exact (cons_hi hv).trans (wTile_at hv hp n t (by omega))
theorem wCut_at {W p : Nat} {h : Nat → Nat} (hv : ∀ t, h t < 2 ^ W) (hp : p < W) : ∀ n s t, t < n → (wCut W h n s).testBit (t * W + p) = (h (s + t)).testBit p
  | 0, s, t, h => by omega
  | n + 1, s, 0, _ => by
    unfold wCut
    rw [Nat.zero_mul, Nat.zero_add]
    exact cons_lo hp
  | n + 1, s, t + 1, h => by
    unfold wCut
    rw [Nat.add_mul, Nat.one_mul, show t * W + W + p = W + (t * W + p) from by omega, show s + (t + 1) = s + 1 + t from by omega]
    exact (cons_hi (hv s)).trans (wCut_at hv hp n (s + 1) t (by omega))
theorem wRank_at (ones : Nat) (L R : Nat → Nat → Nat) (j p : Nat) : ∀ n, bsv (wRank ones L R j n) p = sumR (fun k => cond ((wPre ones L R (k + 1) j).testBit p) 1 0) n
  | 0 => rfl
  | n + 1 => by
    unfold wRank sumR
    rw [bsv_add, wRank_at ones L R j p n]
    simp [bsv]
theorem wLow_at {ones p : Nat} (h1 : ones.testBit p = true) (rk : List Nat) (t : Nat) : (wLow ones rk t).testBit p = decide (bsv rk p < t) := by
  unfold wLow
  rw [Nat.testBit_and, h1, Bool.true_and]
  by_cases e : t = 0
  · subst e; simp
  · rw [nbeq_f e]
    show (ones ^^^ bsGt ones rk (t - 1)).testBit p = _
    rw [Nat.testBit_xor, h1, bsGt_at h1]
    by_cases e2 : bsv rk p < t
    · rw [decide_eq_true e2, decide_eq_false (by omega : ¬ t - 1 < bsv rk p)]; rfl
    · rw [decide_eq_false e2, decide_eq_true (by omega : t - 1 < bsv rk p)]; rfl
theorem wLow_bd (W : Nat) (rk : List Nat) (t : Nat) : wLow (2 ^ W - 1) rk t < 2 ^ W := by
  unfold wLow
  have := Nat.two_pow_pos W
  exact Nat.lt_of_le_of_lt Nat.and_le_left (by omega)
def mon4 (x y z w : Bool) : Bool := !(((x != y) && (y != z)) || (((x != y) && (z != w)) || ((y != z) && (z != w))))
theorem wMon_at {ones p : Nat} (h1 : ones.testBit p = true) (x y z w : Nat) : (wMon ones x y z w).testBit p = mon4 (x.testBit p) (y.testBit p) (z.testBit p) (w.testBit p) := by
  unfold wMon mon4
  simp only [Nat.testBit_xor, Nat.testBit_or, Nat.testBit_and, h1]
  cases x.testBit p <;> cases y.testBit p <;> cases z.testBit p <;> cases w.testBit p <;> rfl
def Sg (o : Nat → Nat → Nat → Bool) (m : Nat) : Prop := ∀ a b c d, a < b → b < c → c < d → d < m → mon4 (o a b c) (o a b d) (o a c d) (o b c d) = true
theorem ones_at {W p : Nat} (hp : p < W) : (2 ^ W - 1).testBit p = true := by
  rw [Nat.testBit_two_pow_sub_one]; exact decide_eq_true hp
/-- how many of the middle ones are beyond the way from the first to the last -/
def cntY (o : Nat → Nat → Nat → Bool) (m : Nat) : Nat := sumR (fun k => cond (o 0 (k + 1) (m - 1)) 1 0) (m - 2)
/-- j's own rank tells on which side it is -/
theorem cut_at {o : Nat → Nat → Nat → Bool} {m j : Nat} (hS : Sg o m) (h1 : 0 < j) (h2 : j < m - 1) (pre : Nat → Bool) (hp : ∀ k, 0 < k → k < m - 1 → k ≠ j → pre k = cond (Nat.blt j k) (o j k (m - 1) && !o 0 j k) (!(o k j (m - 1) && !o 0 k j))) (hj : pre j = false) :
    decide (sumR (fun k => cond (pre (k + 1)) 1 0) (m - 2) < cntY o m) = o 0 j (m - 1) := by
  have key : ∀ k, 0 < k → k < m - 1 → k ≠ j → (o 0 j (m - 1) = true → pre k = true → o 0 k (m - 1) = true) ∧ (o 0 j (m - 1) = false → o 0 k (m - 1) = true → pre k = true) := by
    intro k k1 k2 nk
    have e := hp k k1 k2 nk
    by_cases q : j < k
    · rw [nblt_t q] at e
      have s := hS 0 j k (m - 1) h1 q k2 (by omega)
      rw [e]
      revert s
      unfold mon4
      cases o 0 j k <;> cases o 0 j (m - 1) <;> cases o 0 k (m - 1) <;> cases o j k (m - 1) <;> simp
    · rw [nblt_f q] at e
      have s := hS 0 k j (m - 1) k1 (by omega) h2 (by omega)
      rw [e]
      revert s
      unfold mon4
      cases o 0 k j <;> cases o 0 j (m - 1) <;> cases o 0 k (m - 1) <;> cases o k j (m - 1) <;> simp
  cases hy : o 0 j (m - 1) with
  | true =>
    refine decide_eq_true (sumR_lt _ (fun i hi => ?_) ⟨j - 1, by omega, ?_⟩)
    · by_cases e : i + 1 = j
      · rw [e, hj]; exact Nat.zero_le _
      · cases hq : pre (i + 1) with
        | false => exact Nat.zero_le _
        | true => rw [(key (i + 1) (by omega) (by omega) e).1 hy hq]; exact Nat.le_refl _
    · have e : j - 1 + 1 = j := by omega
      simp only [e, hj, hy]
      decide
  | false =>
    refine decide_eq_false (Nat.not_lt.mpr (sumR_le _ (fun i hi => ?_)))
    by_cases e : i + 1 = j
    · rw [e, hy]; exact Nat.zero_le _
    · cases hq : o 0 (i + 1) (m - 1) with
      | false => exact Nat.zero_le _
      | true => rw [(key (i + 1) (by omega) (by omega) e).2 hy hq]; exact Nat.le_refl _
