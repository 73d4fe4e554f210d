/-! No way has more nets than the bound. -/
theorem tbl_bd : ∀ n i, tbl n i < 2 ^ 2 ^ n
  | 0, i => by show 0 < 2; omega
  | n + 1, i => by
    unfold tbl
    have e : 2 ^ (n + 1) = 2 ^ n + 2 ^ n := by rw [Nat.pow_succ]; omega
    have p := Nat.two_pow_pos (2 ^ n)
    cases Nat.beq i n with
    | true =>
      show (2 ^ 2 ^ n - 1) <<< 2 ^ n < _
      have := cons_bd (h := 0) (y := 2 ^ 2 ^ n - 1) (n := 2 ^ n) (k := 2 ^ n) p (by omega)
      rw [e]
      have h0 : Nat.lor 0 (Nat.shiftLeft (2 ^ 2 ^ n - 1) (2 ^ n)) = (2 ^ 2 ^ n - 1) <<< 2 ^ n := Nat.zero_or _
      rw [← h0]
      exact this
    | false =>
      rw [e]
      exact cons_bd (tbl_bd n i) (tbl_bd n i)
theorem tbl_at : ∀ n i x, i < n → x < 2 ^ n → (tbl n i).testBit x = x.testBit i
  | 0, i, x, h, _ => by omega
  | n + 1, i, x, hi, hx => by
    unfold tbl
    have e : 2 ^ (n + 1) = 2 ^ n + 2 ^ n := by rw [Nat.pow_succ]; omega
    by_cases q : x < 2 ^ n
    · by_cases e1 : i = n
      · subst e1
        rw [show Nat.beq i i = true from Nat.beq_refl i]
        show ((2 ^ 2 ^ i - 1) <<< 2 ^ i).testBit x = _
        rw [Nat.testBit_shiftLeft, decide_eq_false (by omega : ¬ x ≥ 2 ^ i), Nat.testBit_lt_two_pow q]
        rfl
      · rw [nbeq_f e1]
        exact (cons_lo q).trans (tbl_at n i x (by omega) q)
    · obtain ⟨y, rfl⟩ : ∃ y, x = 2 ^ n + y := ⟨x - 2 ^ n, by omega⟩
      have hy : y < 2 ^ n := by omega
      by_cases e1 : i = n
      · subst e1
        rw [show Nat.beq i i = true from Nat.beq_refl i]
        show ((2 ^ 2 ^ i - 1) <<< 2 ^ i).testBit (2 ^ i + y) = _
        rw [Nat.testBit_shiftLeft, decide_eq_true (by omega : 2 ^ i + y ≥ 2 ^ i), show 2 ^ i + y - 2 ^ i = y from by omega, ones_at hy, Nat.testBit_two_pow_add_eq, Nat.testBit_lt_two_pow hy]
        rfl
      · rw [nbeq_f e1, Nat.testBit_two_pow_add_gt (by omega)]
        exact (cons_hi (tbl_bd n i)).trans (tbl_at n i y (by omega) hy)
def trs6 : List (Nat × Nat × Nat) := [(1,2,3),(1,2,4),(1,2,5),(1,2,6),(1,3,4),(1,3,5),(1,3,6),(1,4,5),(1,4,6),(1,5,6),(2,3,4),(2,3,5),(2,3,6),(2,4,5),(2,4,6),(2,5,6),(3,4,5),(3,4,6),(3,5,6),(4,5,6)]
def prs6 : List (Nat × Nat) := [(1,2),(1,3),(1,4),(1,5),(1,6),(2,3),(2,4),(2,5),(2,6),(3,4),(3,5),(3,6),(4,5),(4,6),(5,6)]
theorem trs_chk : (List.range 7).all (fun a => (List.range 7).all (fun c => (List.range 7).all (fun b => !(Nat.blt 0 a && (Nat.blt a c && Nat.blt c b)) || trs6.contains (a, c, b)))) = true := by decide +kernel
theorem prs_chk : (List.range 7).all (fun a => (List.range 7).all (fun c => !(Nat.blt 0 a && Nat.blt a c) || prs6.contains (a, c))) = true := by decide +kernel
theorem trs_mem (a : Nat) (ha : a < 7) (c : Nat) (hc : c < 7) (b : Nat) (hb : b < 7) (h0 : 0 < a) (h1 : a < c) (h2 : c < b) : (a, c, b) ∈ trs6 := by
  have h := trs_chk
  rw [List.all_eq_true] at h
  have h := h a (List.mem_range.mpr ha)
  rw [List.all_eq_true] at h
  have h := h c (List.mem_range.mpr hc)
  rw [List.all_eq_true] at h
  have h := h b (List.mem_range.mpr hb)
  rw [nblt_t h0, nblt_t h1, nblt_t h2] at h
  exact List.contains_iff_mem.mp h
theorem prs_mem (a : Nat) (ha : a < 7) (c : Nat) (hc : c < 7) (h0 : 0 < a) (h1 : a < c) : (a, c) ∈ prs6 := by
  have h := prs_chk
  rw [List.all_eq_true] at h
  have h := h a (List.mem_range.mpr ha)
  rw [List.all_eq_true] at h
  have h := h c (List.mem_range.mpr hc)
  rw [nblt_t h0, nblt_t h1] at h
  exact List.contains_iff_mem.mp h
theorem trs_inj : ∀ s, s ∈ trs6 → ∀ t, t ∈ trs6 → i3 s.1 s.2.1 s.2.2 = i3 t.1 t.2.1 t.2.2 → s = t := by decide
theorem prs_inj : ∀ s, s ∈ prs6 → ∀ t, t ∈ prs6 → i2 s.1 s.2 = i2 t.1 t.2 → s = t := by decide
theorem code3 {m nW : Nat} (hm : m ≤ 8) (h : Nat → Nat → Nat → Bool) (hW : ∀ a c b, 0 < a → a < c → c < b → b < m - 1 → i3 a c b < nW) : ∃ x, x < 2 ^ nW ∧ ∀ a c b, 0 < a → a < c → c < b → b < m - 1 → x.testBit (i3 a c b) = h a c b := by
  obtain ⟨x, hx, hb⟩ := bits_of (fun n => cdec (∃ a c b, 0 < a ∧ a < c ∧ c < b ∧ b < m - 1 ∧ i3 a c b = n ∧ h a c b = true)) nW
  refine ⟨x, hx, fun a c b h1 h2 h3 h4 => ?_⟩
  rw [hb _ (hW a c b h1 h2 h3 h4)]
  cases e : h a c b with
  | true => exact cdec_t ⟨a, c, b, h1, h2, h3, h4, rfl, e⟩
  | false =>
    refine cdec_f (fun q => ?_)
    obtain ⟨a', c', b', q1, q2, q3, q4, q5, q6⟩ := q
    have := trs_inj (a', c', b') (trs_mem a' (by omega) c' (by omega) b' (by omega) q1 q2 q3) (a, c, b) (trs_mem a (by omega) c (by omega) b (by omega) h1 h2 h3) q5
    injection this with e1 e2
    injection e2 with e2 e3
    subst e1; subst e2; subst e3
    rw [e] at q6; cases q6
theorem code2 {m nL : Nat} (hm : m ≤ 8) (h : Nat → Nat → Bool) (hL : ∀ a c, 0 < a → a < c → c < m - 1 → i2 a c < nL) : ∃ x, x < 2 ^ nL ∧ ∀ a c, 0 < a → a < c → c < m - 1 → x.testBit (i2 a c) = h a c := by
  obtain ⟨x, hx, hb⟩ := bits_of (fun n => cdec (∃ a c, 0 < a ∧ a < c ∧ c < m - 1 ∧ i2 a c = n ∧ h a c = true)) nL
  refine ⟨x, hx, fun a c h1 h2 h3 => ?_⟩
  rw [hb _ (hL a c h1 h2 h3)]
  cases e : h a c with
  | true => exact cdec_t ⟨a, c, h1, h2, h3, rfl, e⟩
  | false =>
    refine cdec_f (fun q => ?_)
    obtain ⟨a', c', q1, q2, q3, q5, q6⟩ := q
    have := prs_inj (a', c') (prs_mem a' (by omega) c' (by omega) q1 q2) (a, c) (prs_mem a (by omega) c (by omega) h1 h2) q5
    injection this with e1 e2
    subst e1; subst e2
    rw [e] at q6; cases q6
theorem wSet_at {x : Nat} : ∀ ls : List Nat, (wSet ls).testBit x = true → x ∈ ls
  | [], h => by
    have : (0 : Nat).testBit x = true := h
    simp at this
  | l :: ls, h => by
    have h : ((1 <<< l) ||| wSet ls).testBit x = true := h
    rw [Nat.testBit_or, Bool.or_eq_true] at h
    rcases h with h | h
    · rw [Nat.shiftLeft_eq, Nat.one_mul] at h
      by_cases e : x = l
      · rw [e]; exact List.mem_cons_self
      · rw [Nat.testBit_two_pow_of_ne (Ne.symm e)] at h; cases h
    · exact List.mem_cons_of_mem _ (wSet_at ls h)
theorem wSetE_at {x : Nat} : ∀ es : List wEn, (wSetE es).testBit x = true → ∃ e, e ∈ es ∧ e.1 = x
  | [], h => by
    have : (0 : Nat).testBit x = true := h
    simp at this
  | l :: es, h => by
    have h : ((1 <<< l.1) ||| wSetE es).testBit x = true := h
    rw [Nat.testBit_or, Bool.or_eq_true] at h
    rcases h with h | h
    · rw [Nat.shiftLeft_eq, Nat.one_mul] at h
      by_cases e : x = l.1
      · exact ⟨l, List.mem_cons_self, e.symm⟩
      · rw [Nat.testBit_two_pow_of_ne (Ne.symm e)] at h; cases h
    · obtain ⟨e, he, hx⟩ := wSetE_at es h
      exact ⟨e, List.mem_cons_of_mem _ he, hx⟩
theorem wUni_at {x : Nat} : ∀ bs : List (Nat × Nat × Nat), (wUni bs).testBit x = true → ∃ b, b ∈ bs ∧ ∃ e, e ∈ wDec b.1 b.2.2 ∧ e.1 = x
  | [], h => by
    have : (0 : Nat).testBit x = true := h
    simp at this
  | b :: bs, h => by
    have h : (wSetE (wDec b.1 b.2.2) ||| wUni bs).testBit x = true := h
    rw [Nat.testBit_or, Bool.or_eq_true] at h
    rcases h with h | h
    · exact ⟨b, List.mem_cons_self, wSetE_at _ h⟩
    · obtain ⟨c, hc, he⟩ := wUni_at bs h
      exact ⟨c, List.mem_cons_of_mem _ hc, he⟩
theorem sub_bit {v s N x : Nat} (h : Nat.beq (v &&& ((2 ^ N - 1) ^^^ s)) 0 = true) (hx : x < N) (hv : v.testBit x = true) : s.testBit x = true := by
  have h0 := Nat.eq_of_beq_eq_true h
  have : (v &&& ((2 ^ N - 1) ^^^ s)).testBit x = false := by rw [h0]; simp
  rw [Nat.testBit_and, Nat.testBit_xor, hv, ones_at hx] at this
  cases hs : s.testBit x with
  | true => rfl
  | false => rw [hs] at this; cases this
theorem wOkE_at {m nL : Nat} {e : wEn} : ∀ es : List wEn, wOkE m nL es = true → e ∈ es → Nat.beq (wOkL m nL e.1 &&& ((2 ^ 2 ^ nL - 1) ^^^ wSet e.2.1)) 0 = true ∧ Nat.beq (wOkR m nL e.1 &&& ((2 ^ 2 ^ nL - 1) ^^^ wSet e.2.2)) 0 = true
  | [], _, h => by cases h
  | a :: es, h, he => by
    have h : (Nat.beq (wOkL m nL a.1 &&& ((2 ^ 2 ^ nL - 1) ^^^ wSet a.2.1)) 0 && (Nat.beq (wOkR m nL a.1 &&& ((2 ^ 2 ^ nL - 1) ^^^ wSet a.2.2)) 0 && wOkE m nL es)) = true := h
    rw [Bool.and_eq_true, Bool.and_eq_true] at h
    rcases List.mem_cons.mp he with e | e
    · subst e; exact ⟨h.1, h.2.1⟩
    · exact wOkE_at es h.2.2 e
theorem wGood_at {m bound nL : Nat} {b : Nat × Nat × Nat} : ∀ bs, wGoodB m bound nL bs → b ∈ bs → wChk m bound (wDec b.1 b.2.2) b.2.1 = true ∧ wLen (wDec b.1 b.2.2) = b.2.1 ∧ wOkE m nL (wDec b.1 b.2.2) = true
  | [], _, h => by cases h
  | a :: bs, h, hb => by
    rcases List.mem_cons.mp hb with e | e
    · subst e
      have := h.1
      rw [Bool.and_eq_true, Bool.and_eq_true] at this
      exact ⟨this.1.1, Nat.eq_of_beq_eq_true this.1.2, this.2⟩
    · exact wGood_at bs h.2 e
theorem vAll_t {ones p n : Nat} {h : Nat → Nat} (h1 : ones.testBit p = true) (hh : ∀ i, i < n → (h i).testBit p = true) : (vAll ones h n).testBit p = true := by
  rw [vAll_at h1, List.all_eq_true]
  exact fun i hi => hh i (List.mem_range.mp hi)
theorem and3 {a b c d m : Nat} : (Nat.blt a b && (Nat.blt b c && (Nat.blt c d && Nat.blt d m))) = true → a < b ∧ b < c ∧ c < d ∧ d < m := by
  rw [Bool.and_eq_true, Bool.and_eq_true, Bool.and_eq_true]
  exact fun h => ⟨Nat.ble_eq.mp h.1, Nat.ble_eq.mp h.2.1, Nat.ble_eq.mp h.2.2.1, Nat.ble_eq.mp h.2.2.2⟩
section
variable {o : Nat → Nat → Nat → Bool} {m nW nL w l r : Nat}
theorem okW_at (hS : Sg o m) (hW : ∀ a c b, 0 < a → a < c → c < b → b < m - 1 → i3 a c b < nW) (hw : w < 2 ^ nW) (hb : ∀ a c b, 0 < a → a < c → c < b → b < m - 1 → w.testBit (i3 a c b) = o a c b) : (wOkW m nW).testBit w = true := by
  have h1 := ones_at hw
  unfold wOkW
  refine vAll_t h1 (fun d _ => vAll_t h1 (fun c _ => vAll_t h1 (fun b _ => vAll_t h1 (fun a _ => ?_))))
  cases q : (Nat.blt 0 a && (Nat.blt a b && (Nat.blt b c && (Nat.blt c d && Nat.blt d (m - 1))))) with
  | false => exact h1
  | true =>
    rw [Bool.and_eq_true] at q
    have a0 : 0 < a := Nat.ble_eq.mp q.1
    obtain ⟨q1, q2, q3, q4⟩ := and3 q.2
    show (wMon _ _ _ _ _).testBit w = true
    rw [wMon_at h1, tbl_at _ _ _ (hW a b c a0 q1 q2 (by omega)) hw, tbl_at _ _ _ (hW a b d a0 q1 (by omega) q4) hw, tbl_at _ _ _ (hW a c d a0 (by omega) q3 q4) hw, tbl_at _ _ _ (hW b c d (by omega) q2 q3 q4) hw, hb a b c a0 q1 q2 (by omega), hb a b d a0 q1 (by omega) q4, hb a c d a0 (by omega) q3 q4, hb b c d (by omega) q2 q3 q4]
    exact hS a b c d q1 q2 q3 (by omega)
theorem okL_at (hS : Sg o m) (hL : ∀ a c, 0 < a → a < c → c < m - 1 → i2 a c < nL) (hl : l < 2 ^ nL) (hb : ∀ a c b, 0 < a → a < c → c < b → b < m - 1 → w.testBit (i3 a c b) = o a c b) (hc : ∀ a c, 0 < a → a < c → c < m - 1 → l.testBit (i2 a c) = o 0 a c) : (wOkL m nL w).testBit l = true := by
  have h1 := ones_at hl
  unfold wOkL
  refine vAll_t h1 (fun c _ => vAll_t h1 (fun b _ => vAll_t h1 (fun a _ => ?_)))
  cases q : (Nat.blt 0 a && (Nat.blt a b && (Nat.blt b c && Nat.blt c (m - 1)))) with
  | false => exact h1
  | true =>
    obtain ⟨a0, q1, q2, q3⟩ := and3 q
    show (wMon _ _ _ _ _).testBit l = true
    rw [wMon_at h1, tbl_at _ _ _ (hL a b a0 q1 (by omega)) hl, tbl_at _ _ _ (hL a c a0 (by omega) q3) hl, tbl_at _ _ _ (hL b c (by omega) q2 q3) hl, bitN_mul, rep_at hl, hb a b c a0 q1 q2 q3, hc a b a0 q1 (by omega), hc a c a0 (by omega) q3, hc b c (by omega) q2 q3]
    exact hS 0 a b c a0 q1 q2 (by omega)
theorem okR_at (hS : Sg o m) (hL : ∀ a c, 0 < a → a < c → c < m - 1 → i2 a c < nL) (hl : r < 2 ^ nL) (hb : ∀ a c b, 0 < a → a < c → c < b → b < m - 1 → w.testBit (i3 a c b) = o a c b) (hc : ∀ a c, 0 < a → a < c → c < m - 1 → r.testBit (i2 a c) = o a c (m - 1)) : (wOkR m nL w).testBit r = true := by
  have h1 := ones_at hl
  unfold wOkR
  refine vAll_t h1 (fun c _ => vAll_t h1 (fun b _ => vAll_t h1 (fun a _ => ?_)))
  cases q : (Nat.blt 0 a && (Nat.blt a b && (Nat.blt b c && Nat.blt c (m - 1)))) with
  | false => exact h1
  | true =>
    obtain ⟨a0, q1, q2, q3⟩ := and3 q
    show (wMon _ _ _ _ _).testBit r = true
    rw [wMon_at h1, tbl_at _ _ _ (hL a b a0 q1 (by omega)) hl, tbl_at _ _ _ (hL a c a0 (by omega) q3) hl, tbl_at _ _ _ (hL b c (by omega) q2 q3) hl, bitN_mul, rep_at hl, hb a b c a0 q1 q2 q3, hc a b a0 q1 (by omega), hc a c a0 (by omega) q3, hc b c (by omega) q2 q3]
    exact hS a b c (m - 1) q1 q2 q3 (by omega)
theorem cntY_le : cntY o m ≤ m - 2 := by
  unfold cntY
  have := sumR_c (h := fun k => cond (o 0 (k + 1) (m - 1)) 1 0) (v := 1) (m - 2) (fun i _ => by cases o 0 (i + 1) (m - 1) <;> decide)
  omega
theorem wVW (hm : 3 ≤ m) (hS : Sg o m) {es : List wEn} {W p0 : Nat} (hW : wLen es = W) (hp : p0 < W) (h0 : ∀ a c b, 0 < a → a < c → c < b → b < m - 1 → (wAll 0 (i3 a c b) es).testBit p0 = o a c b) (h1 : ∀ a c, 0 < a → a < c → c < m - 1 → (wAll 1 (i2 a c) es).testBit p0 = o 0 a c) (h2 : ∀ a c, 0 < a → a < c → c < m - 1 → (wAll 2 (i2 a c) es).testBit p0 = o a c (m - 1)) :
    VW (wV (wTab m es W)) (2 ^ ((m - 1) * W) - 1) m (cntY o m * W + p0) o := by
  have ht : cntY o m < m - 1 := by have := cntY_le (o := o) (m := m); omega
  have hP : cntY o m * W + p0 < (m - 1) * W := by
    have : (cntY o m + 1) * W ≤ (m - 1) * W := Nat.mul_le_mul_right W (by omega)
    rw [Nat.add_mul] at this
    omega
  have bd : ∀ kind i, wAll kind i es < 2 ^ W := fun kind i => by have := wAll_bd kind i es; rw [hW] at this; exact this
  refine ⟨ones_at hP, fun a c b hac hcb hbm => ?_⟩
  unfold wV wTab
  rw [nth_range _ _ _ _ (by omega : a < m), nth_range _ _ _ _ (by omega : c < m), nth_range _ _ _ _ hbm]
  unfold wVec
  by_cases a0 : a = 0
  · subst a0
    rw [show Nat.beq 0 0 = true from rfl]
    by_cases bm : b = m - 1
    · subst bm
      rw [show Nat.beq (m - 1) (m - 1) = true from Nat.beq_refl _]
      show (wCut W _ (m - 1) 0).testBit _ = _
      rw [wCut_at (fun t => wLow_bd W _ t) hp (m - 1) 0 _ ht, Nat.zero_add, wLow_at (ones_at hp), wRank_at]
      have o1 := ones_at hp
      refine cut_at hS hac hcb (fun k => (wPre (2 ^ W - 1) (fun j k => wAll 1 (i2 j k) es) (fun j k => wAll 2 (i2 j k) es) k c).testBit p0) (fun k k1 k2 nk => ?_) ?_
      · unfold wPre
        by_cases q : c < k
        · rw [nblt_t q]
          show ((wAll 2 (i2 c k) es) &&& ((2 ^ W - 1) ^^^ (wAll 1 (i2 c k) es))).testBit p0 = _
          rw [Nat.testBit_and, Nat.testBit_xor, o1, h2 c k hac q k2, h1 c k hac q k2]
          simp
        · have q2 : k < c := by omega
          rw [nblt_f q, nblt_t q2]
          show ((2 ^ W - 1) ^^^ ((wAll 2 (i2 k c) es) &&& ((2 ^ W - 1) ^^^ (wAll 1 (i2 k c) es)))).testBit p0 = _
          rw [Nat.testBit_xor, Nat.testBit_and, Nat.testBit_xor, o1, h2 k c k1 q2 hcb, h1 k c k1 q2 hcb]
          simp
      · unfold wPre
        rw [nblt_f (Nat.lt_irrefl c)]
        simp
    · rw [nbeq_f bm]
      show (wTile W (wAll 1 (i2 c b) es) (m - 1)).testBit _ = _
      rw [wTile_at (bd 1 _) hp _ _ ht]
      exact h1 c b hac hcb (by omega)
  · rw [nbeq_f a0]
    by_cases bm : b = m - 1
    · subst bm
      rw [show Nat.beq (m - 1) (m - 1) = true from Nat.beq_refl _]
      show (wTile W (wAll 2 (i2 a c) es) (m - 1)).testBit _ = _
      rw [wTile_at (bd 2 _) hp _ _ ht]
      exact h2 a c (by omega) hac (by omega)
    · rw [nbeq_f bm]
      show (wTile W (wAll 0 (i3 a c b) es) (m - 1)).testBit _ = _
      rw [wTile_at (bd 0 _) hp _ _ ht]
      exact h0 a c b (by omega) hac hcb (by omega)
theorem wVal_at (hS : Sg o m) {V : Nat → Nat → Nat → Nat} {ones p : Nat} (H : VW V ones m p o) : (wVal m ones V).testBit p = true := by
  unfold wVal
  refine vAll_t H.1 (fun k _ => vAll_t H.1 (fun j _ => ?_))
  cases q : (Nat.blt 0 j && (Nat.blt j k && Nat.blt k (m - 1))) with
  | false => exact H.1
  | true =>
    rw [Bool.and_eq_true, Bool.and_eq_true] at q
    have j0 : 0 < j := Nat.ble_eq.mp q.1
    have jk : j < k := Nat.ble_eq.mp q.2.1
    have km : k < m - 1 := Nat.ble_eq.mp q.2.2
    show (wMon _ _ _ _ _).testBit p = true
    rw [wMon_at H.1, H.2 0 j k j0 jk (by omega), H.2 0 j (m - 1) j0 (by omega) (by omega), H.2 0 k (m - 1) (by omega) km (by omega), H.2 j k (m - 1) jk km (by omega)]
    exact hS 0 j k (m - 1) j0 jk km (by omega)
theorem wBound {bound : Nat} {bs : List (Nat × Nat × Nat)} (hm : 3 ≤ m) (hm8 : m ≤ 8) (hS : Sg o m) (hW : ∀ a c b, 0 < a → a < c → c < b → b < m - 1 → i3 a c b < nW) (hL : ∀ a c, 0 < a → a < c → c < m - 1 → i2 a c < nL)
    (hall : Nat.beq (wOkW m nW &&& ((2 ^ 2 ^ nW - 1) ^^^ wUni bs)) 0 = true) (hgood : wGoodB m bound nL bs) : sumR (fun x => cond (stC o m (fmk m x)) (Gcnt o m (2 * (m - 2)) (fmk m x) 0) 0) (2 ^ (m - 2)) ≤ bound := by
  obtain ⟨w, hw, hwb⟩ := code3 hm8 o hW
  obtain ⟨l, hl, hlb⟩ := code2 hm8 (fun a c => o 0 a c) hL
  obtain ⟨r, hr, hrb⟩ := code2 hm8 (fun a c => o a c (m - 1)) hL
  obtain ⟨b, hb, e, he, hew⟩ := wUni_at bs (sub_bit hall hw (okW_at hS hW hw hwb))
  obtain ⟨g1, g2, g3⟩ := wGood_at bs hgood hb
  obtain ⟨c1, c2⟩ := wOkE_at _ g3 he
  rw [hew] at c1 c2
  have ml := wSet_at _ (sub_bit c1 hl (okL_at hS hL hl hwb hlb))
  have mr := wSet_at _ (sub_bit c2 hr (okR_at hS hL hr hwb hrb))
  obtain ⟨p0, hp0, hi⟩ := wAll_at ml mr _ he
  rw [g2] at hp0
  have H := wVW hm hS g2 hp0 (fun a c b q1 q2 q3 q4 => by rw [(hi _).1, hew]; exact hwb a c b q1 q2 q3 q4) (fun a c q1 q2 q3 => by rw [(hi _).2.1]; exact hlb a c q1 q2 q3) (fun a c q1 q2 q3 => by rw [(hi _).2.2]; exact hrb a c q1 q2 q3)
  rw [← bTotal_at H (by omega)]
  have h0 := Nat.eq_of_beq_eq_true g1
  have : (bsGt (2 ^ ((m - 1) * b.2.1) - 1) (bTotal (wV (wTab m (wDec b.1 b.2.2) b.2.1)) (2 ^ ((m - 1) * b.2.1) - 1) m) bound &&& wVal m (2 ^ ((m - 1) * b.2.1) - 1) (wV (wTab m (wDec b.1 b.2.2) b.2.1))).testBit (cntY o m * b.2.1 + p0) = false := by
    rw [h0]; simp
  rw [Nat.testBit_and, wVal_at hS H, bsGt_at H.1, Bool.and_true] at this
  have := of_decide_eq_false this
  omega
end
