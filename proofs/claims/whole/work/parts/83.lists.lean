/-! The reference lists sets of edges. -/
section
variable (can must barred : Nat) (cr : Nat → Nat)
/-- what may still come to cross -/
def opn (set : Nat) : Nat → Nat
  | 0 => 0
  | k + 1 => opn set k ||| cond (can.testBit k && !barred.testBit k && Nat.beq (cr k &&& set) 0) (2 ^ k) 0
def MEk (set op k : Nat) : Prop := can.testBit k = true → set.testBit k = false → cr k &&& (set ||| op) ≠ 0
noncomputable def ME (set e : Nat) : Bool := cdec (∀ k, e ≤ k → k < 36 → MEk can cr set (opn can barred cr set e) k)
noncomputable def LSt : Nat → Nat → List Nat
  | 0, set => cond (ME can barred cr set 0) [set] []
  | k + 1, set => cond (ME can barred cr set (k + 1)) (cond (can.testBit k) (cond (must.testBit k) [] (LSt k set) ++ cond (!barred.testBit k && Nat.beq (cr k &&& set) 0) (LSt k (set ||| 2 ^ k)) []) (LSt k set)) []
end
/-- how the reference holds them -/
def RLs (g : zIJ) (can must barred : Nat) (cr : Nat → Nat) : Prop := g.2 250 10 = lN can ∧ g.2 250 11 = lN must ∧ g.2 250 12 = lN barred ∧ (∀ k, k < 36 → can.testBit k = true → g.2 296 k = lN (cr k)) ∧ (∀ k, cr k < 2 ^ 36)
section
variable {g : zIJ} {can must barred : Nat} {cr : Nat → Nat}
theorem or_lt36 {a b : Nat} (ha : a < 2 ^ 36) (hb : b < 2 ^ 36) : a ||| b < 2 ^ 36 := Nat.or_lt_two_pow ha hb
theorem opn_lt (set : Nat) : ∀ e, e ≤ 36 → opn can barred cr set e < 2 ^ 36
  | 0, _ => by show 0 < 2 ^ 36; omega
  | k + 1, h => by
    unfold opn
    refine or_lt36 (opn_lt set k (by omega)) ?_
    cases (can.testBit k && !barred.testBit k && Nat.beq (cr k &&& set) 0) with
    | false => show 0 < 2 ^ 36; omega
    | true => exact Nat.pow_lt_pow_right (by omega) (by omega)
theorem nbeq_d (a : Nat) : Nat.beq a 0 = decide (a = 0) := by
  by_cases h : a = 0
  · subst h; rfl
  · rw [nbeq_f h, decide_eq_false h]
theorem and_lt36 {a b : Nat} (ha : a < 2 ^ 36) : a &&& b < 2 ^ 64 := Nat.lt_of_le_of_lt Nat.and_le_left (by omega)
theorem andn_bit (a b k : Nat) : (a &&& (a ^^^ b)).testBit k = (a.testBit k && !b.testBit k) := by
  rw [Nat.testBit_and, Nat.testBit_xor]
  cases a.testBit k <;> cases b.testBit k <;> rfl
theorem or_zero (a : Nat) : a ||| 0 = a := Nat.or_zero a
theorem r_may1 (h : RLs g can must barred cr) {set e : Nat} (he : e ≤ 36) : ∀ (j k op : Nat), k + j = e → op = opn can barred cr set k → zev mX12_mayEnd 6 [.ref 250, .long (lN set), .int (nI e), .long (lN op), .int (nI k)] g = zev mX12_mayEnd 69 [.ref 250, .long (lN set), .long (lN (opn can barred cr set e)), .int (nI e)] g
  | 0, k, op, hk, ho => by
    have : k = e := by omega
    subst this
    rw [uX12_mayEnd_6, decide_eq_true (nI_le (Nat.le_refl k) (by omega)), ho]
    rfl
  | j + 1, k, op, hk, ho => by
    rw [uX12_mayEnd_6, decide_eq_false (nI_ge (by omega : k < e) (by omega)), h.1, h.2.2.1, lN_andn, r_has _ _ (by omega), zaI_some, bI_0, andn_bit, zin_n (by omega) (by omega), nI_clamp (by omega), nI_1]
    have hop : opn can barred cr set (k + 1) = opn can barred cr set k ||| cond (can.testBit k && !barred.testBit k && Nat.beq (cr k &&& set) 0) (2 ^ k) 0 := rfl
    have z0 : lN op ||| 0 = lN op := by show lN op ||| lN 0 = _; rw [lN_or, or_zero]
    cases hc : (can.testBit k && !barred.testBit k) with
    | false =>
      show zev mX12_mayEnd 6 [.ref 250, .long (lN set), .int (nI e), .long (lN op ||| 0), .int (nI (k + 1))] g = _
      rw [z0]
      refine r_may1 h he j (k + 1) op (by omega) ?_
      rw [hop, hc, ho]
      exact (or_zero _).symm
    | true =>
      have hcan : can.testBit k = true := by
        rw [Bool.and_eq_true] at hc; exact hc.1
      show cond (!decide (lg_cmp (g.2 296 k &&& lN set) 0 = 0)) _ _ = _
      rw [cmp_eq, h.2.2.2.1 k (by omega) hcan, lN_and, lN_0 (and_lt36 (h.2.2.2.2 k))]
      by_cases q : cr k &&& set = 0
      · rw [decide_eq_true q]
        show zev mX12_mayEnd 6 [.ref 250, .long (lN set), .int (nI e), .long (lN op ||| ((1 : Int64) <<< ((nI k).toInt64 &&& 63))), .int (nI (k + 1))] g = _
        rw [bit_l (by omega), lN_or]
        refine r_may1 h he j (k + 1) _ (by omega) ?_
        rw [hop, hc, ho, nbeq_d, decide_eq_true q]
        rfl
      · rw [decide_eq_false q]
        show zev mX12_mayEnd 6 [.ref 250, .long (lN set), .int (nI e), .long (lN op ||| 0), .int (nI (k + 1))] g = _
        rw [z0]
        refine r_may1 h he j (k + 1) op (by omega) ?_
        rw [hop, hc, ho, nbeq_d, decide_eq_false q]
        exact (or_zero _).symm
theorem r_may2 (h : RLs g can must barred cr) {set op e : Nat} (he : e ≤ 36) : zev mX12_mayEnd 69 [.ref 250, .long (lN set), .long (lN op), .int (nI e)] g = some (some (.int (bI (cdec (∀ k, e ≤ k → k < 36 → MEk can cr set op k)))), g) := by
  have step : ∀ k, k < 36 → zev mX12_mayEnd 69 [.ref 250, .long (lN set), .long (lN op), .int (nI k)] g = cond (cdec (MEk can cr set op k)) (zev mX12_mayEnd 69 [.ref 250, .long (lN set), .long (lN op), .int (nI (k + 1))] g) (some (some (.int 0), g)) := by
    intro k hk
    rw [uX12_mayEnd_69, show decide ((36 : Int32) ≤ nI k) = false from decide_eq_false (nI_ge (a := k) (b := 36) hk (by omega)), h.1, lN_andn, r_has _ _ (by omega), zaI_some, bI_0, andn_bit, zin_n (by omega) (by omega), nI_clamp (by omega), nI_1]
    cases hc : can.testBit k with
    | false =>
      rw [cdec_t (q := MEk can cr set op k) (fun a => by rw [hc] at a; cases a)]
      rfl
    | true =>
      cases hs : set.testBit k with
      | true =>
        rw [cdec_t (q := MEk can cr set op k) (fun _ b => by rw [hs] at b; cases b)]
        rfl
      | false =>
        show cond (!decide (lg_cmp (g.2 296 k &&& (lN set ||| lN op)) 0 = 0)) _ _ = _
        rw [cmp_eq, h.2.2.2.1 k hk hc, lN_or, lN_and, lN_0 (and_lt36 (h.2.2.2.2 k))]
        by_cases q : cr k &&& (set ||| op) = 0
        · rw [decide_eq_true q, cdec_f (q := MEk can cr set op k) (fun a => a hc hs q)]
          rfl
        · rw [decide_eq_false q, cdec_t (q := MEk can cr set op k) (fun _ _ => q)]
          rfl
  have stop : zev mX12_mayEnd 69 [.ref 250, .long (lN set), .long (lN op), .int (nI 36)] g = some (some (.int 1), g) := by
    rw [uX12_mayEnd_69]; rfl
  rw [zall (F := fun k => zev mX12_mayEnd 69 [.ref 250, .long (lN set), .long (lN op), .int (nI k)] g) step stop (36 - e) e (by omega)]
  cases cdec (∀ k, e ≤ k → k < 36 → MEk can cr set op k) <;> rfl
theorem r_mayEnd (h : RLs g can must barred cr) {set e : Nat} (he : e ≤ 36) : zev mX12_mayEnd 0 [.ref 250, .long (lN set), .int (nI e)] g = some (some (.int (bI (ME can barred cr set e))), g) := by
  rw [uX12_mayEnd_0]
  exact (r_may1 h he e 0 0 (by omega) rfl).trans (r_may2 h he)
end
/-- one more in the list -/
def push (g : zIJ) (N x : Nat) : zIJ := zsI (zsL g 297 N (lN x)) 250 14 (nI (N + 1))
def pushs (g : zIJ) (N : Nat) : List Nat → zIJ
  | [] => g
  | x :: xs => pushs (push g N x) (N + 1) xs
section
variable {g : zIJ} {can must barred : Nat} {cr : Nat → Nat}
theorem push_rls (h : RLs g can must barred cr) (N x : Nat) : RLs (push g N x) can must barred cr := by
  unfold push RLs
  rw [zI_2]
  obtain ⟨h1, h2, h3, h4, h5⟩ := h
  refine ⟨?_, ?_, ?_, fun k hk hc => ?_, h5⟩
  · rw [zL_row _ _ (by decide : (250 : Nat) ≠ 297)]; exact h1
  · rw [zL_row _ _ (by decide : (250 : Nat) ≠ 297)]; exact h2
  · rw [zL_row _ _ (by decide : (250 : Nat) ≠ 297)]; exact h3
  · rw [zL_row _ _ (by decide : (296 : Nat) ≠ 297)]; exact h4 k hk hc
theorem pushs_rls : ∀ (l : List Nat) (g : zIJ) (N : Nat), RLs g can must barred cr → RLs (pushs g N l) can must barred cr
  | [], _, _, h => h
  | x :: xs, g, N, h => pushs_rls xs _ _ (push_rls h N x)
theorem push_n (g : zIJ) (N x : Nat) : (push g N x).1 250 14 = nI (N + 1) := zI_same _ _ _ _
theorem pushs_n : ∀ (l : List Nat) (g : zIJ) (N : Nat), g.1 250 14 = nI N → (pushs g N l).1 250 14 = nI (N + l.length)
  | [], _, _, h => h
  | x :: xs, g, N, h => by
    show (pushs (push g N x) (N + 1) xs).1 250 14 = _
    rw [pushs_n xs _ _ (push_n g N x), List.length_cons]
    congr 1
    omega
theorem pushs_app : ∀ (l r : List Nat) (g : zIJ) (N : Nat), pushs g N (l ++ r) = pushs (pushs g N l) (N + l.length) r
  | [], r, g, N => rfl
  | x :: xs, r, g, N => by
    show pushs (push g N x) (N + 1) (xs ++ r) = pushs (pushs (push g N x) (N + 1) xs) _ r
    rw [pushs_app xs r, List.length_cons]
    congr 1
    omega
theorem r_lists : ∀ (e set : Nat) (g : zIJ) (N : Nat), e ≤ 36 → RLs g can must barred cr → g.1 250 14 = nI N → N + (LSt can must barred cr e set).length ≤ 5000 → zev mX12_lists 0 [.ref 250, .long (lN set), .int (nI e)] g = some (none, pushs g N (LSt can must barred cr e set))
  | 0, set, g, N, _, h, hN, hl => by
    rw [uX12_lists_0, r_mayEnd h (by omega), zaI_some, bI_0]
    unfold LSt at hl ⊢
    cases hm : ME can barred cr set 0 with
    | false => rfl
    | true =>
      rw [hm] at hl
      have hl : N + 1 ≤ 5000 := hl
      show cond (zin (g.1 250 14) 5000) (some (none, zsI (zsL g 297 ((g.1 250 14).toNatClampNeg) (lN set)) 250 14 (g.1 250 14 + 1))) none = _
      rw [hN, zin_n (by omega) (by omega), nI_clamp (by omega), nI_1]
      rfl
  | k + 1, set, g, N, he, h, hN, hl => by
    rw [uX12_lists_0, r_mayEnd h he, zaI_some, bI_0]
    have e1 : nI (k + 1) - 1 = nI k := nI_pred k
    have e2 : decide (nI (k + 1) = 0) = false := decide_eq_false (nI_ne0 (by omega) (by omega))
    have lv : Nat.blt ((nI k).toNatClampNeg + 3) ((nI (k + 1)).toNatClampNeg + 3) = true := by
      rw [nI_clamp (by omega), nI_clamp (by omega)]; exact nblt_t (by omega)
    unfold LSt at hl ⊢
    cases hm : ME can barred cr set (k + 1) with
    | false => rfl
    | true =>
      rw [hm] at hl
      rw [e2, e1, h.1, r_has _ _ (by omega), zaI_some, bI_0, h.2.1, r_has _ _ (by omega), zaI_some, bI_0, lv]
      have tail : ∀ (g2 : zIJ) (N2 : Nat), RLs g2 can must barred cr → g2.1 250 14 = nI N2 → N2 + (cond (!barred.testBit k && Nat.beq (cr k &&& set) 0) (LSt can must barred cr k (set ||| 2 ^ k)) []).length ≤ 5000 → can.testBit k = true →
          (zaI (zev mX12_has 0 [.long (g2.2 250 12), .int (nI k)] g2) fun x12 g11 => cond (!decide (x12 = 0)) (some (none, g11)) (cond (zin (nI k) 36) (cond (!decide (lg_cmp (g11.2 296 ((nI k).toNatClampNeg) &&& lN set) 0 = 0)) (some (none, g11)) (cond true (zaV (zev mX12_lists 0 [.ref 250, .long (lN set ||| ((1 : Int64) <<< ((nI k).toInt64 &&& 63))), .int (nI k)] g11) fun g13 => some (none, g13)) none)) none)) = some (none, pushs g2 N2 (cond (!barred.testBit k && Nat.beq (cr k &&& set) 0) (LSt can must barred cr k (set ||| 2 ^ k)) [])) := by
        intro g2 N2 h2 hN2 hl2 hc
        rw [h2.2.2.1, r_has _ _ (by omega), zaI_some, bI_0, zin_n (by omega) (by omega), nI_clamp (by omega), cmp_eq, h2.2.2.2.1 k (by omega) hc, lN_and, lN_0 (and_lt36 (h2.2.2.2.2 k)), ← nbeq_d, bit_l (by omega), lN_or]
        cases hb : barred.testBit k with
        | true => rfl
        | false =>
          rw [hb] at hl2
          cases hq : Nat.beq (cr k &&& set) 0 with
          | false => rfl
          | true =>
            rw [hq] at hl2
            show (zaV (zev mX12_lists 0 [.ref 250, .long (lN (set ||| 2 ^ k)), .int (nI k)] g2) fun g13 => some (none, g13)) = _
            rw [r_lists k _ g2 N2 (by omega) h2 hN2 hl2]
            rfl
      cases hc : can.testBit k with
      | false =>
        rw [hc] at hl
        show (zaV (zev mX12_lists 0 [.ref 250, .long (lN set), .int (nI k)] g) fun g14 => some (none, g14)) = _
        rw [r_lists k _ g N (by omega) h hN hl]
        rfl
      | true =>
        rw [hc] at hl
        have hl : N + (cond (must.testBit k) [] (LSt can must barred cr k set) ++ cond (!barred.testBit k && Nat.beq (cr k &&& set) 0) (LSt can must barred cr k (set ||| 2 ^ k)) []).length ≤ 5000 := hl
        rw [List.length_append] at hl
        cases hmu : must.testBit k with
        | true =>
          rw [hmu] at hl
          exact tail g N h hN (by simpa using hl) hc
        | false =>
          rw [hmu] at hl
          have hl : N + ((LSt can must barred cr k set).length + (cond (!barred.testBit k && Nat.beq (cr k &&& set) 0) (LSt can must barred cr k (set ||| 2 ^ k)) []).length) ≤ 5000 := hl
          show (zaV (zev mX12_lists 0 [.ref 250, .long (lN set), .int (nI k)] g) _) = _
          rw [r_lists k _ g N (by omega) h hN (by omega), zaV_some]
          show _ = some (none, pushs g N (LSt can must barred cr k set ++ cond (!barred.testBit k && Nat.beq (cr k &&& set) 0) (LSt can must barred cr k (set ||| 2 ^ k)) []))
          rw [pushs_app]
          exact tail _ _ (pushs_rls _ _ _ h) (pushs_n _ _ _ hN) (by omega) hc
end
