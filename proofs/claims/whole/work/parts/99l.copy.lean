/-! Calls: write, copy. -/
def setce (σ : zS) (ce : Nat → Nat → Int64) : zS := zmk σ.s σ.kp σ.fi σ.un σ.z σ.fd σ.rm σ.row σ.so σ.si ce
def cutV (so : Int32) (v : Int64) : Int64 := cond (decide (so = 0)) v.toInt32.toInt8.toInt32.toInt64 (cond (decide (so = 1)) v.toInt32.toInt64 v)
theorem ci_ce {g g' : zIJ} {σ : zS} {t : Nat} {ce : Nat → Nat → Int64} (h : CI g σ t) (f1 : ∀ k j, g'.1 k j = g.1 k j) (f2 : ∀ k j, (k < 242 ∨ 249 < k) → g'.2 k j = g.2 k j) (hc : ∀ q, q < 4 → ∀ i, i < 40 → g'.2 (243 + 2 * q) i = ce q i) : CI g' (setce σ ce) t := by
  obtain ⟨⟨h1, h2, h3, h4, h5, h6, h7⟩, hk⟩ := h
  refine ⟨⟨ci_1 h1 (fun k j k1 k2 => ⟨f1 k j, f2 k j (by omega)⟩), ci_2 h2 (fun k j k1 k2 => ⟨f1 k j, f2 k j (by omega)⟩), ci_3 h3 (fun k j k1 k2 => ⟨f1 k j, f2 k j (by omega)⟩), ci_4 h4 (fun k j k1 k2 => ⟨f1 k j, f2 k j (by omega)⟩), ci_5 h5 (fun k j k1 k2 => ⟨f1 k j, f2 k j (by omega)⟩), ci_6 h6 (fun k j k1 k2 => ⟨f1 k j, f2 k j (by omega)⟩), fun q hq => ⟨?_, ?_, hc q hq⟩⟩, ci_c hk (fun k j k1 k2 => ⟨f1 k j, f2 k j (by omega)⟩)⟩
  · rw [f1]; exact (h7 q hq).1
  · rw [f1]; exact (h7 q hq).2.1
theorem ri_ce {g g' : zIJ} {σ : zS} {ce : Nat → Nat → Int64} (h : RI g σ) (hw : Wfs σ) (f1 : ∀ k j, g'.1 k j = g.1 k j) (f2 : ∀ k j, k < 345 → g'.2 k j = g.2 k j) (hc : ∀ q, q < 4 → ∀ i, i < 40 → g'.2 (345 + q) i = ce q i) : RI g' (setce σ ce) := by
  obtain ⟨⟨h1, h2, h3, h4, h5, h6, h7⟩, hl⟩ := h
  refine ⟨⟨ri_1 h1 (fun k j k1 k2 => ⟨f1 k j, f2 k j (by omega)⟩), ri_2 h2 (fun k j k1 k2 => ⟨f1 k j, f2 k j (by omega)⟩), ⟨?_, ?_⟩, ?_, ri_5 h5 (fun k j k1 k2 => ⟨f1 k j, f2 k j (by omega)⟩), ⟨?_, ri_6 h6.2 hw.2.2.2.2.1 (fun k j k1 k2 => ⟨f1 k j, f2 k j (by omega)⟩)⟩, fun q hq => ⟨?_, ?_, hc q hq⟩⟩, ?_⟩
  · rw [f1]; exact h3.1
  · rw [f1]; exact h3.2
  · rw [f1]; exact h4
  · rw [f1]; exact h6.1
  · rw [f1]; exact (h7 q hq).1
  · rw [f1]; exact (h7 q hq).2.1
  · rw [f1]
    rcases hl with k | ⟨k, l⟩
    · exact Or.inl k
    · exact Or.inr ⟨k, rld_fr l (f1 _ _) (funext fun j => f2 _ _ (by omega))⟩
theorem p_write (a b : Int32) (v : Int64) : PairC (fun g => zev mX11_write 0 [.ref 3, .int a, .int b, .long v] g) (fun g => zev mX12_write 0 [.ref 250, .int a, .int b, .long v] g) := by
  intro σ g t hw h ht
  cases w : whyN σ a b with
  | some k =>
    have k05 := whyN_some w
    refine ⟨fI k, fdn σ k, wfs_fdn hw k, ?_, fun g' r => ?_⟩
    · show COk (zev mX11_write 0 _ g) _ _ _ _
      rw [uX11_write_0, c_refN h.1 hw, zaI_some, w, show whyI (some k) = nI k from rfl, show decide (nI k < 0) = false from decide_eq_false (nI_n0 (by omega))]
      exact cok_le (cok_find h (fr_refl _ g) (by omega)) (by omega : t ≤ t + 2)
    · show ROk (zev mX12_write 0 _ g') _ _ _
      rw [uX12_write_0, r_whyN r.1 hw, zaI_some, w, show whyI (some k) = nI k from rfl, show decide (nI k < 0) = false from decide_eq_false (nI_n0 (by omega))]
      exact rok_find r hw (fr_refl tR g') (by omega)
  | none =>
    obtain ⟨q, i, hq, ea, hi, eb⟩ := whyN_none hw w
    have s40 := (hw.2.2.2.2.2 q hq).1
    obtain ⟨z1, z2, z3⟩ := zC_sh q hq
    have z4 := zC_ce q hq
    refine ⟨.int 1, setce σ (fun c d => if c = q ∧ d = i then cutV (σ.so q) v else σ.ce c d), hw, ?_, fun g' r => ?_⟩
    · show COk (zev mX11_write 0 _ g) _ _ _ _
      have put : zev mX8_put 0 [.ref (242 + 2 * q), .int (nI i), .long v] g = some (none, zsL g (243 + 2 * q) i (cutV (σ.so q) v)) := by
        rw [uX8_put_0, z1, z2, z3, (h.1.2.2.2.2.2.2 q hq).1, nI_clamp (by omega : i < 2 ^ 31)]
        show cond (!decide (σ.so q = 0)) (cond (!decide (σ.so q = 1)) (cond (true && zin (nI i) 40) _ _) (cond (true && zin (nI i) 40) _ _)) (cond (true && zin (nI i) 40) _ _) = _
        rw [zin_n (by omega : i < 40) (by omega)]
        unfold cutV
        cases decide (σ.so q = 0) <;> cases decide (σ.so q = 1) <;> rfl
      rw [uX11_write_0, c_refN h.1 hw, zaI_some, w, ea, eb, zin_n hq (by omega), nI_clamp (by omega : q < 2 ^ 31), z1, put, zaV_some]
      refine cok_of (t := t) (ci_ce (g' := zsL g (243 + 2 * q) i (cutV (σ.so q) v)) h (fun _ _ => rfl) (fun k j hk => by rw [zL_at, if_neg (by omega)]) (fun c hc d hd => ?_)) (fr_L g (cutV (σ.so q) v) (decide_eq_true (by omega))) (by omega)
      rw [zL_at]
      by_cases e : c = q ∧ d = i
      · rw [if_pos (by omega), if_pos e]
      · rw [if_neg (by omega), if_neg e]; exact (h.1.2.2.2.2.2.2 c hc).2.2 d hd
    · show ROk (zev mX12_write 0 _ g') _ _ _
      have : zev mX12_write 0 [.ref 250, .int a, .int b, .long v] g' = some (some (.int 1), zsL g' (345 + q) i (cutV (σ.so q) v)) := by
        rw [uX12_write_0, r_whyN r.1 hw, zaI_some, w, ea, eb, zin_n hq (by omega), nI_clamp (by omega : q < 2 ^ 31), nI_clamp (by omega : i < 2 ^ 31), z4, (r.1.2.2.2.2.2.2 q hq).1]
        show cond (!decide (σ.so q = 0)) (cond (!decide (σ.so q = 1)) (cond (true && zin (nI i) 40) _ _) (cond (true && zin (nI i) 40) _ _)) (cond (true && zin (nI i) 40) _ _) = _
        rw [zin_n (by omega : i < 40) (by omega)]
        unfold cutV
        cases decide (σ.so q = 0) <;> cases decide (σ.so q = 1) <;> rfl
      rw [this]
      refine rok_of (ri_ce (g' := zsL g' (345 + q) i (cutV (σ.so q) v)) r hw (fun _ _ => rfl) (fun k j hk => by rw [zL_at, if_neg (by omega)]) (fun c hc d hd => ?_)) (fr_L g' (cutV (σ.so q) v) (decide_eq_true (by omega)))
      rw [zL_at]
      by_cases e : c = q ∧ d = i
      · rw [if_pos (by omega), if_pos e]
      · rw [if_neg (by omega), if_neg e]; exact (r.1.2.2.2.2.2.2 c hc).2.2 d hd
theorem l_add (a b : Int32) : (a.toInt64 + b.toInt64).toInt = a.toInt + b.toInt := by
  have a1 := Int32.le_toInt a
  have a2 := Int32.toInt_lt a
  have b1 := Int32.le_toInt b
  have b2 := Int32.toInt_lt b
  rw [Int64.toInt_add, Int32.toInt_toInt64, Int32.toInt_toInt64]
  exact Int.bmod_eq_of_le (by omega) (by omega)
/-- the run of n from a is in the sheet -/
def runB (σ : zS) (q : Nat) (a n : Int32) : Bool := decide (0 ≤ a.toInt ∧ 0 ≤ n.toInt ∧ a.toInt + n.toInt ≤ (σ.si q : Int))
theorem c_hasRun {g : zIJ} {σ : zS} (h : CI0 g σ) (hw : Wfs σ) {q : Nat} (hq : q < 4) (a n : Int32) : zev mX8_hasRun 0 [.ref (242 + 2 * q), .int a, .int n] g = some (some (.int (bI (runB σ q a n))), g) := by
  have s40 := (hw.2.2.2.2.2 q hq).1
  have e0 : (0 : Int32).toInt = 0 := rfl
  rw [uX8_hasRun_0, (zC_sh q hq).1, (h.2.2.2.2.2.2 q hq).2.1, cmp_gt, l_add, Int32.toInt_toInt64, nI_toInt (by omega : σ.si q < 2 ^ 31), lt_d, lt_d, e0]
  unfold runB
  by_cases q1 : a.toInt < 0
  · rw [decide_eq_true q1, decide_eq_false (show ¬ (0 ≤ a.toInt ∧ 0 ≤ n.toInt ∧ a.toInt + n.toInt ≤ (σ.si q : Int)) by omega)]; rfl
  · by_cases q2 : n.toInt < 0
    · rw [decide_eq_false q1, decide_eq_true q2, decide_eq_false (show ¬ (0 ≤ a.toInt ∧ 0 ≤ n.toInt ∧ a.toInt + n.toInt ≤ (σ.si q : Int)) by omega)]; rfl
    · by_cases q3 : (σ.si q : Int) < a.toInt + n.toInt
      · rw [decide_eq_false q1, decide_eq_false q2, decide_eq_true q3, decide_eq_false (show ¬ (0 ≤ a.toInt ∧ 0 ≤ n.toInt ∧ a.toInt + n.toInt ≤ (σ.si q : Int)) by omega)]; rfl
      · rw [decide_eq_false q1, decide_eq_false q2, decide_eq_false q3, decide_eq_true (show (0 ≤ a.toInt ∧ 0 ≤ n.toInt ∧ a.toInt + n.toInt ≤ (σ.si q : Int)) by omega)]; rfl
/-- the copied numbers -/
def cpV (σ : zS) (q i p j n : Nat) (c d : Nat) : Int64 := if c = p ∧ j ≤ d ∧ d < j + n then σ.ce q (i + (d - j)) else σ.ce c d
theorem r_copy {g : zIJ} {σ : zS} (h : RI g σ) (hw : Wfs σ) {q i p j n : Nat} (hq : q < 4) (hp : p < 4) (hi : i + n ≤ 40) (hj : j + n ≤ 40) : ROk (zev mX12_copy 123 [.ref 250, .int (nI q), .int (nI i), .int (nI p), .int (nI j), .int (nI n), .int 0] g) g (.int (nI n)) (setce σ (cpV σ q i p j n)) := by
  have z1 := zC_ce q hq
  have z2 := zC_ce p hp
  have run1 : ∃ g1, zev mX12_copy 123 [.ref 250, .int (nI q), .int (nI i), .int (nI p), .int (nI j), .int (nI n), .int 0] g = zev mX12_copy 157 [.ref 250, .int (nI p), .int (nI j), .int (nI n), .int 0] g1 ∧ g1.1 = g.1 ∧ (∀ k, k ≠ 349 → g1.2 k = g.2 k) ∧ ∀ k, k < n → g1.2 349 k = σ.ce q (i + k) := by
    refine zloop (F := fun k g' => zev mX12_copy 123 [.ref 250, .int (nI q), .int (nI i), .int (nI p), .int (nI j), .int (nI n), .int (nI k)] g') (I := fun k g' => g'.1 = g.1 ∧ (∀ k, k ≠ 349 → g'.2 k = g.2 k) ∧ ∀ l, l < k → g'.2 349 l = σ.ce q (i + l)) (Post := fun r => ∃ g1, r = zev mX12_copy 157 [.ref 250, .int (nI p), .int (nI j), .int (nI n), .int 0] g1 ∧ g1.1 = g.1 ∧ (∀ k, k ≠ 349 → g1.2 k = g.2 k) ∧ ∀ k, k < n → g1.2 349 k = σ.ce q (i + k)) (lo := 0) (n := n) (fun k g1 _ hk I1 => ?_) (fun g1 I1 => ?_) n 0 g (Nat.le_refl _) (by omega) ⟨rfl, fun _ _ => rfl, fun l hl => by omega⟩
    · refine ⟨zsL g1 349 k (σ.ce q (i + k)), ?_, I1.1, fun m hm => ?_, fun l hl => ?_⟩
      · rw [uX12_copy_123, decide_eq_false (nI_ge hk (by omega)), zin_n hq (by omega), nI_clamp (by omega : q < 2 ^ 31), z1, nI_add, nI_clamp (by omega : i + k < 2 ^ 31), nI_clamp (by omega : k < 2 ^ 31), I1.2.1 _ (by omega), (h.1.2.2.2.2.2.2 q hq).2.2 _ (by omega)]
        show cond (true && zin (nI (i + k)) 40) (cond (zin (nI k) 40) _ _) _ = _
        rw [zin_n (by omega : i + k < 40) (by omega), zin_n (by omega : k < 40) (by omega), nI_1]
        rfl
      · rw [zL_row _ _ hm]; exact I1.2.1 m hm
      · rw [zL_at]
        by_cases e : l = k
        · rw [if_pos ⟨rfl, e⟩, e]
        · rw [if_neg (fun z => e z.2)]; exact I1.2.2 l (by omega)
    · refine ⟨g1, ?_, I1⟩
      rw [uX12_copy_123, decide_eq_true (nI_le (Nat.le_refl n) (by omega))]
      rfl
  obtain ⟨g1, e1, a1, b1, c1⟩ := run1
  rw [e1]
  have run2 : ∃ g2, zev mX12_copy 157 [.ref 250, .int (nI p), .int (nI j), .int (nI n), .int 0] g1 = some (some (.int (nI n)), g2) ∧ g2.1 = g1.1 ∧ (∀ k, k ≠ 345 + p → g2.2 k = g1.2 k) ∧ ∀ d, g2.2 (345 + p) d = if j ≤ d ∧ d < j + n then g1.2 349 (d - j) else g1.2 (345 + p) d := by
    refine zloop (F := fun k g' => zev mX12_copy 157 [.ref 250, .int (nI p), .int (nI j), .int (nI n), .int (nI k)] g') (I := fun k g2 => g2.1 = g1.1 ∧ (∀ k, k ≠ 345 + p → g2.2 k = g1.2 k) ∧ ∀ d, g2.2 (345 + p) d = if j ≤ d ∧ d < j + k then g1.2 349 (d - j) else g1.2 (345 + p) d) (Post := fun r => ∃ g2, r = some (some (.int (nI n)), g2) ∧ g2.1 = g1.1 ∧ (∀ k, k ≠ 345 + p → g2.2 k = g1.2 k) ∧ ∀ d, g2.2 (345 + p) d = if j ≤ d ∧ d < j + n then g1.2 349 (d - j) else g1.2 (345 + p) d) (lo := 0) (n := n) (fun k g2 _ hk I1 => ?_) (fun g2 I1 => ?_) n 0 g1 (Nat.le_refl _) (by omega) ⟨rfl, fun _ _ => rfl, fun d => by rw [if_neg (by omega)]⟩
    · refine ⟨zsL g2 (345 + p) (j + k) (g1.2 349 k), ?_, I1.1, fun m hm => ?_, fun d => ?_⟩
      · rw [uX12_copy_157, decide_eq_false (nI_ge hk (by omega)), zin_n hp (by omega), nI_clamp (by omega : p < 2 ^ 31), z2, nI_add, nI_clamp (by omega : j + k < 2 ^ 31), nI_clamp (by omega : k < 2 ^ 31), I1.2.1 349 (by omega)]
        show cond (zin (nI k) 40) (cond (true && zin (nI (j + k)) 40) _ _) _ = _
        rw [zin_n (by omega : j + k < 40) (by omega), zin_n (by omega : k < 40) (by omega), nI_1]
        rfl
      · rw [zL_row _ _ hm]; exact I1.2.1 m hm
      · rw [zL_at]
        by_cases e : d = j + k
        · rw [if_pos ⟨rfl, e⟩, if_pos (by omega), e, show j + k - j = k from by omega]
        · rw [if_neg (fun z => e z.2), I1.2.2 d]
          by_cases z : j ≤ d ∧ d < j + k
          · rw [if_pos z, if_pos (by omega)]
          · rw [if_neg z, if_neg (by omega)]
    · refine ⟨g2, ?_, I1⟩
      rw [uX12_copy_157, decide_eq_true (nI_le (Nat.le_refl n) (by omega))]
      rfl
  obtain ⟨g2, e2, a2, b2, c2⟩ := run2
  rw [e2]
  have ai : g2.1 = g.1 := a2.trans a1
  refine rok_of (ri_ce h hw (fun k j => by rw [ai]) (fun k d hk => by rw [b2 k (by omega), b1 k (by omega)]) (fun c hc d hd => ?_)) (fun k d hk => ?_)
  · unfold cpV
    by_cases e : c = p
    · subst e
      rw [c2 d]
      by_cases z : j ≤ d ∧ d < j + n
      · rw [if_pos z, if_pos ⟨rfl, z⟩, c1 _ (by omega)]
      · rw [if_neg z, if_neg (fun w => z w.2), b1 _ (by omega)]
        exact (h.1.2.2.2.2.2.2 c hc).2.2 d hd
    · rw [if_neg (fun w => e w.1), b2 _ (by omega), b1 _ (by omega)]
      exact (h.1.2.2.2.2.2.2 c hc).2.2 d hd
  · have := of_decide_eq_false hk
    rw [ai, b2 k (by omega), b1 k (by omega)]
    exact ⟨rfl, rfl⟩
theorem p_copy (a b c d n : Int32) : PairC (fun g => zev mX11_copy 0 [.ref 3, .int a, .int b, .int c, .int d, .int n] g) (fun g => zev mX12_copy 0 [.ref 250, .int a, .int b, .int c, .int d, .int n] g) := by
  intro σ g t hw h ht
  have e0 : (0 : Int32).toInt = 0 := rfl
  have fd : ∀ k, k < 8 → COk (zaI (zev mX11_finding 0 [.ref 3, .int (nI k)] g) fun x g => some (some (.int x), g)) g (fI k) (fdn σ k) (t + 2) := fun k hk => cok_le (cok_find (k := k) h (fr_refl _ g) hk) (by omega : t ≤ t + 2)
  have rd : ∀ k g', RI g' σ → k < 8 → ROk (zaI (zev mX12_finds 0 [.ref 250, .int (nI k)] g') fun x g => some (some (.int x), g)) g' (fI k) (fdn σ k) := fun k g' r hk => rok_find (k := k) r hw (fr_refl tR g') hk
  cases q1 : zin a 4 with
  | false =>
    refine ⟨fI 0, fdn σ 0, wfs_fdn hw 0, ?_, fun g' r => ?_⟩
    · show COk (zev mX11_copy 0 _ g) _ _ _ _
      rw [uX11_copy_0, c_isSheet, zaI_some, q1]
      exact fd 0 (by omega)
    · show ROk (zev mX12_copy 0 _ g') _ _ _
      rw [uX12_copy_0, r_isSheet, zaI_some, q1]
      exact rd 0 g' r (by omega)
  | true =>
    cases q2 : zin c 4 with
    | false =>
      refine ⟨fI 0, fdn σ 0, wfs_fdn hw 0, ?_, fun g' r => ?_⟩
      · show COk (zev mX11_copy 0 _ g) _ _ _ _
        rw [uX11_copy_0, c_isSheet, zaI_some, q1, c_isSheet, zaI_some, q2]
        exact fd 0 (by omega)
      · show ROk (zev mX12_copy 0 _ g') _ _ _
        rw [uX12_copy_0, r_isSheet, zaI_some, q1, r_isSheet, zaI_some, q2]
        exact rd 0 g' r (by omega)
    | true =>
      obtain ⟨q, hq, e⟩ := zin_of q1 (by omega)
      subst e
      obtain ⟨p, hp, e⟩ := zin_of q2 (by omega)
      subst e
      have sq := (hw.2.2.2.2.2 q hq).1
      have sp := (hw.2.2.2.2.2 p hp).1
      obtain ⟨z1, z2, z3⟩ := zC_sh q hq
      obtain ⟨y1, y2, y3⟩ := zC_sh p hp
      have rs : ∀ k, k < 4 → decide (σ.so k < 0) = decide (σ.so k = -1) := fun k hk => by
        rcases (hw.2.2.2.2.2 k hk).2 with e | e | e | e <;> rw [e] <;> rfl
      have cls : zev mX11_copy 0 [.ref 3, .int (nI q), .int b, .int (nI p), .int d, .int n] g = cond (decide (σ.so q = -1)) (zaI (zev mX11_finding 0 [.ref 3, .int 5] g) fun x g => some (some (.int x), g)) (cond (decide (σ.so p = -1)) (zaI (zev mX11_finding 0 [.ref 3, .int 5] g) fun x g => some (some (.int x), g)) (cond (decide (σ.so q = σ.so p)) (cond (runB σ q b n && runB σ p d n) (cond (zcpG 40 40 b d n) (some (some (.int n), zcpL g (243 + 2 * q) b.toNatClampNeg (243 + 2 * p) d.toNatClampNeg n.toNatClampNeg)) none) (zaI (zev mX11_finding 0 [.ref 3, .int 0] g) fun x g => some (some (.int x), g))) (zaI (zev mX11_finding 0 [.ref 3, .int 2] g) fun x g => some (some (.int x), g)))) := by
        rw [uX11_copy_0, c_isSheet, zaI_some, q1, c_isSheet, zaI_some, q2, nI_clamp (by omega : q < 2 ^ 31), nI_clamp (by omega : p < 2 ^ 31), z1, y1, z2, y2, z3, y3, c_isMissing h.1 hq, zaI_some, c_isMissing h.1 hp, zaI_some, (h.1.2.2.2.2.2.2 q hq).1, (h.1.2.2.2.2.2.2 p hp).1, c_hasRun h.1 hw hq, zaI_some, c_hasRun h.1 hw hp, zaI_some]
        cases decide (σ.so q = -1) <;> cases decide (σ.so p = -1) <;> cases decide (σ.so q = σ.so p) <;> cases runB σ q b n <;> cases runB σ p d n <;> rfl
      have rfs : ∀ g', RI g' σ → zev mX12_copy 0 [.ref 250, .int (nI q), .int b, .int (nI p), .int d, .int n] g' = cond (decide (σ.so q = -1)) (zaI (zev mX12_finds 0 [.ref 250, .int 5] g') fun x g => some (some (.int x), g)) (cond (decide (σ.so p = -1)) (zaI (zev mX12_finds 0 [.ref 250, .int 5] g') fun x g => some (some (.int x), g)) (cond (decide (σ.so q = σ.so p)) (cond (runB σ q b n && runB σ p d n) (zev mX12_copy 123 [.ref 250, .int (nI q), .int b, .int (nI p), .int d, .int n, .int 0] g') (zaI (zev mX12_finds 0 [.ref 250, .int 0] g') fun x g => some (some (.int x), g))) (zaI (zev mX12_finds 0 [.ref 250, .int 2] g') fun x g => some (some (.int x), g)))) := by
        intro g' r
        rw [uX12_copy_0, r_isSheet, zaI_some, q1, r_isSheet, zaI_some, q2, nI_clamp (by omega : q < 2 ^ 31), nI_clamp (by omega : p < 2 ^ 31), (r.1.2.2.2.2.2.2 q hq).1, (r.1.2.2.2.2.2.2 p hp).1, (r.1.2.2.2.2.2.2 q hq).2.1, (r.1.2.2.2.2.2.2 p hp).2.1, rs q hq, so_d hw hp, cmp_gt, cmp_le, l_add, l_add, Int32.toInt_toInt64, Int32.toInt_toInt64, nI_toInt (by omega : σ.si q < 2 ^ 31), nI_toInt (by omega : σ.si p < 2 ^ 31), lt_d b, lt_d d, lt_d n, e0]
        unfold runB
        cases decide (σ.so q = -1) with
        | true => rfl
        | false =>
          cases decide (σ.so p = -1) with
          | true => rfl
          | false =>
            cases decide (σ.so q = σ.so p) with
            | false => rfl
            | true =>
              by_cases k1 : b.toInt < 0
              · rw [decide_eq_true k1, decide_eq_false (show ¬ (0 ≤ b.toInt ∧ 0 ≤ n.toInt ∧ b.toInt + n.toInt ≤ (σ.si q : Int)) by omega)]; rfl
              · by_cases k2 : d.toInt < 0
                · rw [decide_eq_false k1, decide_eq_true k2, decide_eq_false (show ¬ (0 ≤ d.toInt ∧ 0 ≤ n.toInt ∧ d.toInt + n.toInt ≤ (σ.si p : Int)) by omega), Bool.and_false]; rfl
                · by_cases k3 : n.toInt < 0
                  · rw [decide_eq_false k1, decide_eq_false k2, decide_eq_true k3, decide_eq_false (show ¬ (0 ≤ b.toInt ∧ 0 ≤ n.toInt ∧ b.toInt + n.toInt ≤ (σ.si q : Int)) by omega)]; rfl
                  · by_cases k4 : (σ.si q : Int) < b.toInt + n.toInt
                    · rw [decide_eq_false k1, decide_eq_false k2, decide_eq_false k3, decide_eq_true k4, decide_eq_false (show ¬ (0 ≤ b.toInt ∧ 0 ≤ n.toInt ∧ b.toInt + n.toInt ≤ (σ.si q : Int)) by omega)]; rfl
                    · by_cases k5 : d.toInt + n.toInt ≤ (σ.si p : Int)
                      · rw [decide_eq_false k1, decide_eq_false k2, decide_eq_false k3, decide_eq_false k4, decide_eq_true k5, decide_eq_true (show (0 ≤ b.toInt ∧ 0 ≤ n.toInt ∧ b.toInt + n.toInt ≤ (σ.si q : Int)) by omega), decide_eq_true (show (0 ≤ d.toInt ∧ 0 ≤ n.toInt ∧ d.toInt + n.toInt ≤ (σ.si p : Int)) by omega)]; rfl
                      · rw [decide_eq_false k1, decide_eq_false k2, decide_eq_false k3, decide_eq_false k4, decide_eq_false k5, decide_eq_false (show ¬ (0 ≤ d.toInt ∧ 0 ≤ n.toInt ∧ d.toInt + n.toInt ≤ (σ.si p : Int)) by omega), Bool.and_false]; rfl
      show ∃ v σ', Wfs σ' ∧ COk (zev mX11_copy 0 _ g) g v σ' (t + 2) ∧ ∀ g', RI g' σ → ROk (zev mX12_copy 0 _ g') g' v σ'
      rw [cls]
      clear cls
      cases m1 : decide (σ.so q = -1) with
      | true => exact ⟨fI 5, fdn σ 5, wfs_fdn hw 5, fd 5 (by omega), fun g' r => by rw [rfs g' r, m1]; exact rd 5 g' r (by omega)⟩
      | false =>
        cases m2 : decide (σ.so p = -1) with
        | true => exact ⟨fI 5, fdn σ 5, wfs_fdn hw 5, fd 5 (by omega), fun g' r => by rw [rfs g' r, m1, m2]; exact rd 5 g' r (by omega)⟩
        | false =>
          cases m3 : decide (σ.so q = σ.so p) with
          | false => exact ⟨fI 2, fdn σ 2, wfs_fdn hw 2, fd 2 (by omega), fun g' r => by rw [rfs g' r, m1, m2, m3]; exact rd 2 g' r (by omega)⟩
          | true =>
            cases m4 : (runB σ q b n && runB σ p d n) with
            | false => exact ⟨fI 0, fdn σ 0, wfs_fdn hw 0, fd 0 (by omega), fun g' r => by rw [rfs g' r, m1, m2, m3, m4]; exact rd 0 g' r (by omega)⟩
            | true =>
              have m4' := Bool.and_eq_true_iff.mp m4
              have k1 := of_decide_eq_true m4'.1
              have k2 := of_decide_eq_true m4'.2
              obtain ⟨i, hi, e⟩ := i_small (b := b) (k := 40) k1.1 (by omega) (by omega)
              obtain ⟨j, hj, e'⟩ := i_small (b := d) (k := 40) k2.1 (by omega) (by omega)
              obtain ⟨l, hl, e''⟩ := i_small (b := n) (k := 40) k1.2.1 (by omega) (by omega)
              subst e e' e''
              rw [nI_toInt (by omega : i < 2 ^ 31), nI_toInt (by omega : l < 2 ^ 31)] at k1
              rw [nI_toInt (by omega : j < 2 ^ 31), nI_toInt (by omega : l < 2 ^ 31)] at k2
              have gg : zcpG 40 40 (nI i) (nI j) (nI l) = true := by
                unfold zcpG
                rw [nI_toInt (by omega : i < 2 ^ 31), nI_toInt (by omega : j < 2 ^ 31), nI_toInt (by omega : l < 2 ^ 31)]
                exact decide_eq_true (by omega)
              refine ⟨.int (nI l), setce σ (cpV σ q i p j l), hw, ?_, fun g' r => ?_⟩
              · rw [gg, nI_clamp (by omega : i < 2 ^ 31), nI_clamp (by omega : j < 2 ^ 31), nI_clamp (by omega : l < 2 ^ 31)]
                refine cok_of (t := t) (ci_ce (g' := zcpL g (243 + 2 * q) i (243 + 2 * p) j l) h (fun _ _ => rfl) (fun k m hk => by rw [cpL_oth _ _ _ _ _ _ (by omega)]) (fun c hc m hm => ?_)) (fr_cpL g _ _ _ _ _ (fun m => decide_eq_true (by omega))) (by omega)
                unfold cpV
                by_cases e : c = p
                · subst e
                  rw [cpL_row]
                  by_cases z : j ≤ m ∧ m < j + l
                  · rw [if_pos z, if_pos ⟨rfl, z⟩]
                    exact (h.1.2.2.2.2.2.2 q hq).2.2 _ (by omega)
                  · rw [if_neg z, if_neg (fun w => z w.2)]
                    exact (h.1.2.2.2.2.2.2 c hc).2.2 m hm
                · rw [if_neg (fun w => e w.1), cpL_oth _ _ _ _ _ _ (by omega)]
                  exact (h.1.2.2.2.2.2.2 c hc).2.2 m hm
              · rw [rfs g' r, m1, m2, m3, m4]
                exact r_copy r hw hq hp (by omega) (by omega)
