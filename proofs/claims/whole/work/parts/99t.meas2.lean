/-! Chains and edges measured. -/
theorem mset_o {g : zIJ} {v : Int64} {o : Bool} {k : Nat} (h : k ≠ 232) (j : Nat) : (mset g v o).1 k j = g.1 k j := by
  unfold mset
  rw [zL_1, zI_at, if_neg (fun z => h z.1)]
theorem mset_o2 {g : zIJ} {v : Int64} {o : Bool} {k j : Nat} (h : ¬ (k = 232 ∧ j = 2)) : (mset g v o).2 k j = g.2 k j := by
  unfold mset
  rw [zL_at, if_neg h]; rfl
theorem mset_m (g : zIJ) (v w : Int64) (o p : Bool) : mset (mset g v o) w p = mset g w p := by
  show zsL (zsI (mset g v o) 232 3 (bI p)) 232 2 w = _
  rw [mset_I, mset_L]
theorem rset_o {g : zIJ} {o : Bool} {k : Nat} (h : k ≠ 250) (j : Nat) : (rset g o).1 k j = g.1 k j := by
  unfold rset
  rw [zI_at, if_neg (fun z => h z.1)]
def chV (s : Nat → Int32) : Nat → Nat → Int64 × Bool → Int64 × Bool
  | 0, _, p => p
  | k + 1, i, p => cond p.2 p (chV s k (i + 1) (stV (s (56 + 2 * i)) (s (57 + 2 * i)) p.1))
theorem i_56 (i : Nat) : (56 : Int32) + 2 * nI i = nI (56 + 2 * i) := by
  show nI 56 + nI 2 * nI i = _
  rw [← nI_add]
  congr 1
  exact (Int32.ofNat_mul 2 i).symm
theorem i_57 (i : Nat) : nI (56 + 2 * i) + 1 = nI (57 + 2 * i) := by rw [nI_1]; congr 1; omega
theorem r_byStep {g : zIJ} {s : Nat → Int32} (h : RBo g 251 s) (v : Int64) {i : Nat} (hi : i < 8) : zev mX12_byStep 0 [.ref 250, .long v, .int (nI i)] (rset g false) = some (some (.long (stV (s (56 + 2 * i)) (s (57 + 2 * i)) v).1), rset g (stV (s (56 + 2 * i)) (s (57 + 2 * i)) v).2) := by
  rw [uX12_byStep_0, i_56, i_57, zin_n (by omega : 57 + 2 * i < 72) (by omega), zin_n (by omega : 56 + 2 * i < 72) (by omega), nI_clamp (by omega : 57 + 2 * i < 2 ^ 31), nI_clamp (by omega : 56 + 2 * i < 2 ^ 31), rset_o (by omega) (57 + 2 * i), rset_o (by omega) (56 + 2 * i), h _ (by omega), h _ (by omega), r_plus, zaL_some, r_times, zaL_some, r_minus, zaL_some, r_times, zaL_some, cmp_eq, z64_0]
  unfold stV
  generalize s (56 + 2 * i) = a
  generalize s (57 + 2 * i) = b
  cases decide (a.toInt = 0)
  · cases decide (a.toInt = 1)
    · cases decide (a.toInt = 2)
      · cases decide (a.toInt = 3)
        · cases decide (a.toInt = 4)
          · cases decide (a.toInt = 5) <;> rfl
          · rfl
        · rfl
      · cases decide (b = 0) <;> rfl
    · rfl
  · rfl
theorem r_chn {g : zIJ} {s : Nat → Int32} {m : Nat} (h : RBo g 251 s) (hm : s 1 = nI m) (m8 : m ≤ 8) : ∀ (k i : Nat) (v : Int64) (o : Bool), i + k = m → zev mX12_chained 5 [.ref 250, .long v, .int (nI i)] (rset g o) = some (some (.long (chV s k i (v, o)).1), rset g (chV s k i (v, o)).2)
  | 0, i, v, o, e => by
    have : i = m := by omega
    subst this
    rw [uX12_chained_5, show (1 : Int32).toNatClampNeg = 1 from rfl, rset_o (by omega) 1, h 1 (by omega), hm, decide_eq_true (nI_le (Nat.le_refl i) (by omega))]; rfl
  | k + 1, i, v, o, e => by
    rw [uX12_chained_5, show (1 : Int32).toNatClampNeg = 1 from rfl, rset_o (by omega) 1, h 1 (by omega), hm, decide_eq_false (nI_ge (a := i) (b := m) (by omega) (by omega)), rset_v, bI_0]
    cases o with
    | true => rfl
    | false =>
      rw [r_byStep h v (by omega : i < 8), zaL_some, nI_1, r_chn h hm m8 k (i + 1) _ _ (by omega)]; rfl
theorem r_chained {g : zIJ} {s : Nat → Int32} {m : Nat} (h : RBo g 251 s) (hm : s 1 = nI m) (m8 : m ≤ 8) (v : Int64) (o : Bool) : zev mX12_chained 0 [.ref 250, .long v] (rset g o) = some (some (.long (chV s m 0 (v, o)).1), rset g (chV s m 0 (v, o)).2) := by
  rw [uX12_chained_0]
  exact r_chn h hm m8 m 0 v o (by omega)
theorem c_tks {g : zIJ} {s : Nat → Int32} {m : Nat} (h5 : g.1 4 5 = nI m) (hs : ∀ i, i < 8 → g.1 7 i = s (56 + 2 * i) ∧ g.1 8 i = s (57 + 2 * i)) (m8 : m ≤ 8) : ∀ (k i : Nat) (v : Int64) (o : Bool), i + k = m → zev mX2_takeSteps 2 [.ref 232, .ref 4, .int (nI i)] (mset g v o) = some (none, mset g (chV s k i (v, o)).1 (chV s k i (v, o)).2)
  | 0, i, v, o, e => by
    have : i = m := by omega
    subst this
    rw [uX2_takeSteps_2, mset_o (by omega) 5, h5, decide_eq_true (nI_le (Nat.le_refl i) (by omega))]; rfl
  | k + 1, i, v, o, e => by
    rw [uX2_takeSteps_2, mset_o (by omega) 5, h5, decide_eq_false (nI_ge (a := i) (b := m) (by omega) (by omega)), mset_3, bI_0, zin_n (by omega : i < 8) (by omega), nI_clamp (by omega : i < 2 ^ 31), mset_o (by omega) i, mset_o (by omega) i, (hs i (by omega)).1, (hs i (by omega)).2]
    cases o with
    | true => rfl
    | false =>
      rw [c_takeStep, zaV_some, nI_1, c_tks h5 hs m8 k (i + 1) _ _ (by omega)]; rfl
theorem c_takeSteps {g : zIJ} {s : Nat → Int32} {m : Nat} (h : CBo g 4 s) (hm : s 1 = nI m) (m8 : m ≤ 8) (v : Int64) (o : Bool) : zev mX2_takeSteps 0 [.ref 232, .ref 4] (mset g v o) = some (none, mset g (chV s m 0 (v, o)).1 (chV s m 0 (v, o)).2) := by
  rw [uX2_takeSteps_0]
  exact c_tks (h.2.1.trans hm) h.2.2.2.1 m8 m 0 v o (by omega)
theorem ci_w {g g' : zIJ} {σ : zS} {t : Nat} (h : CI g σ t) (f : zFr tW g g') : CI g' σ t := by
  obtain ⟨h0, n, X, Y, hc⟩ := h
  exact ⟨ci0_fr h0 (fr_ud f (fun a b q => by have := of_decide_eq_true q; omega)), n, X, Y, cache_fr hc (fun k j k1 k2 k3 => f k j (decide_eq_false (by omega)))⟩
theorem fr_ms (g : zIJ) (v : Int64) (o : Bool) : zFr tW g (mset g v o) := fr_tr (fr_I g (bI o) rfl) (fr_L _ v rfl)
theorem fr_wc {g g' : zIJ} (f : zFr tW g g') : zFr tC g g' := fr_ud f (fun a b q => by have := of_decide_eq_true q; omega)
theorem ri_rs {g : zIJ} {σ : zS} (h : RI g σ) (hw : Wfs σ) (o : Bool) : RI (rset g o) σ := ri_fr h hw (fr_I g (bI o) rfl) (zI_col _ _ (by decide)) (zI_col _ _ (by decide)) rfl
theorem fr_rs (g : zIJ) (o : Bool) : zFr tR g (rset g o) := fr_I g (bI o) rfl
theorem p_chain (v : Int64) : PairC (fun g => zev mX11_chain 0 [.ref 3, .long v] g) (fun g => zev mX12_chain 0 [.ref 250, .long v] g) := by
  intro σ g t hw h ht
  obtain ⟨m, m8, em⟩ := hw.1.2.2.2.2
  obtain ⟨p, ep⟩ : ∃ p, p = chV σ.s m 0 (v, false) := ⟨_, rfl⟩
  have cc : zev mX11_chain 0 [.ref 3, .long v] g = cond p.2 (zaL (zev mX11_longFinding 0 [.ref 3, .int 7] (mset g p.1 p.2)) fun x4 g3 => some (some (.long x4), g3)) (some (some (.long p.1), mset g p.1 p.2)) := by
    rw [uX11_chain_0, uX2_start_0, zaV_some, show zsI (zsL g 232 2 v) 232 3 0 = mset g v false from rfl, c_takeSteps h.1.1 em m8, zaV_some, mset_3, mset_2, bI_0, ← ep]
    cases p.2 <;> rfl
  have rr : ∀ g', RI g' σ → zev mX12_chain 0 [.ref 250, .long v] g' = cond p.2 (zaL (zev mX12_findsLong 0 [.ref 250, .int 7] (rset g' p.2)) fun x4 g3 => some (some (.long x4), g3)) (some (some (.long p.1), rset g' p.2)) := fun g' r => by
    rw [uX12_chain_0, show zsI g' 250 21 0 = rset g' false from rfl, r_chained r.1.1 em m8, zaL_some, rset_v, bI_0, ← ep]
    cases p.2 <;> rfl
  have ic := ci_w h (fr_ms g p.1 p.2)
  have fc := fr_wc (fr_ms g p.1 p.2)
  cases q : p.2 with
  | true =>
    refine ⟨fL 7, fdn σ 7, wfs_fdn hw 7, ?_, fun g' r => ?_⟩
    · show COk (zev mX11_chain 0 _ g) _ _ _ _
      rw [cc]
      rw [q] at ic fc ⊢
      exact cok_le (cok_findL (k := 7) ic fc (by omega)) (by omega : t ≤ t + 2)
    · show ROk (zev mX12_chain 0 _ g') _ _ _
      rw [rr g' r, q]
      exact rok_findL (k := 7) (ri_rs r hw true) hw (fr_rs g' true) (by omega)
  | false =>
    refine ⟨.long p.1, σ, hw, ?_, fun g' r => ?_⟩
    · show COk (zev mX11_chain 0 _ g) _ _ _ _
      rw [cc]
      rw [q] at ic fc ⊢
      exact cok_of ic fc (by omega)
    · show ROk (zev mX12_chain 0 _ g') _ _ _
      rw [rr g' r, q]
      exact rok_of (ri_rs r hw false) (fr_rs g' false)
/-! rules -/
def lI (x : Int) : Int64 := Int64.ofInt x
theorem lI_to {x : Int} (h : Sml x) : (lI x).toInt = x := Int64.toInt_ofInt_of_le (by unfold Sml at h; omega) (by unfold Sml at h; omega)
theorem lI_c {x : Int} (h : Sml x) : (cI x).toInt64 = lI x := i64_of (by
  rw [Int32.toInt_toInt64, lI_to h]
  exact cI_toInt (by unfold Sml at h; omega) (by unfold Sml at h; omega))
theorem lI_add (x y : Int) : lI x + lI y = lI (x + y) := (Int64.ofInt_add x y).symm
theorem lI_mul (x y : Int) : lI x * lI y = lI (x * y) := (Int64.ofInt_mul x y).symm
def ab (d : Int) : Int := if 0 ≤ d then d else -d
theorem ab_sy (x y : Int) : ab (x - y) = ab (y - x) := by unfold ab; split <;> split <;> omega
theorem zab {d : Int} (h : Sml d) : zabI (cI d) = cI (ab d) := by
  unfold zabI ab
  by_cases q : 0 ≤ d
  · rw [if_pos q, if_pos]
    rw [cI_0]
    exact (cI_le (by unfold Sml; omega) h).mpr q
  · rw [if_neg q, if_neg]
    · rw [cI_0, cI_sub]; congr 1; omega
    · rw [cI_0]
      exact fun z => q ((cI_le (by unfold Sml; omega) h).mp z)
theorem zmx {x y : Int} (hx : Sml x) (hy : Sml y) : zmxI (cI x) (cI y) = cI (if x < y then y else x) := by
  unfold zmxI
  by_cases q : x < y
  · rw [if_pos q, if_pos ((cI_lt hx hy).mpr q)]
  · rw [if_neg q, if_neg (fun z => q ((cI_lt hx hy).mp z))]
theorem zmn {x y : Int} (hx : Sml x) (hy : Sml y) : zmnI (cI x) (cI y) = cI (if y < x then y else x) := by
  unfold zmnI
  by_cases q : y < x
  · rw [if_pos q, if_pos ((cI_lt hy hx).mpr q)]
  · rw [if_neg q, if_neg (fun z => q ((cI_lt hy hx).mp z))]
theorem lI_lt {x y : Int} (hx : Sml x) (hy : Sml y) : (lI x < lI y) ↔ x < y := by rw [Int64.lt_iff_toInt_lt, lI_to hx, lI_to hy]
theorem zmxl {x y : Int} (hx : Sml x) (hy : Sml y) : zmxL (lI x) (lI y) = lI (if x < y then y else x) := by
  unfold zmxL
  by_cases q : y < x
  · rw [if_pos ((lI_lt hy hx).mpr q), if_neg (by omega)]
  · rw [if_neg (fun z => q ((lI_lt hy hx).mp z))]
    by_cases q2 : x < y
    · rw [if_pos q2]
    · rw [if_neg q2, show y = x from by omega]
theorem zmnl {x y : Int} (hx : Sml x) (hy : Sml y) : zmnL (lI x) (lI y) = lI (if y < x then y else x) := by
  unfold zmnL
  by_cases q : y < x
  · rw [if_pos q, if_pos ((lI_lt hy hx).mpr q)]
  · rw [if_neg q, if_neg (fun z => q ((lI_lt hy hx).mp z))]
def ruV (D E : Int) (i j : Nat) (r : Int) : Int := cond (decide (r = 0)) 1 (cond (decide (r = 1)) (D * D + E * E) (cond (decide (r = 2)) (D + E) (cond (decide (r = 3)) (if D < E then E else D) (cond (decide (r = 4)) (if E < D then E else D) (cond (decide (r = 5)) ((i + j : Nat) : Int) (((i + 1) * (j + 1) : Nat) : Int))))))
def ruE (X Y : Nat → Int) (r : Int) (i j : Nat) : Int64 := lI (ruV (ab (X i - X j)) (ab (Y i - Y j)) i j r)
theorem ruE_sy (X Y : Nat → Int) (r : Int) (i j : Nat) : ruE X Y r i j = ruE X Y r j i := by
  unfold ruE ruV
  rw [ab_sy (X i), ab_sy (Y i), Nat.add_comm i j, Nat.mul_comm (i + 1)]
theorem ab_sml {X Y : Nat → Int} {n : Nat} (h : Near X Y n) {i j : Nat} (hi : i < n) (hj : j < n) : Sml (X i - X j) ∧ Sml (Y i - Y j) ∧ 0 ≤ ab (X i - X j) ∧ ab (X i - X j) ≤ 198 ∧ 0 ≤ ab (Y i - Y j) ∧ ab (Y i - Y j) ≤ 198 := by
  have h1 := h i hi
  have h2 := h j hj
  unfold Sml ab
  refine ⟨by omega, by omega, ?_, ?_, ?_, ?_⟩ <;> split <;> omega
theorem sq_sml {d : Int} (h1 : 0 ≤ d) (h2 : d ≤ 198) : 0 ≤ d * d ∧ d * d ≤ 39204 := by
  refine ⟨Int.mul_nonneg h1 h1, ?_⟩
  have : (d * d).natAbs ≤ 198 * 198 := by
    rw [Int.natAbs_mul]
    exact Nat.mul_le_mul (by omega) (by omega)
  omega
theorem nI_mul (a b : Nat) : nI a * nI b = nI (a * b) := (Int32.ofNat_mul a b).symm
theorem nI_lI {a : Nat} (h : a ≤ 1000) : (nI a).toInt64 = lI a := by
  rw [nI_cI]
  exact lI_c (by unfold Sml; omega)
theorem ij_sml {i j : Nat} (hi : i < 9) (hj : j < 9) : i + j ≤ 1000 ∧ (i + 1) * (j + 1) ≤ 1000 := by
  have : (i + 1) * (j + 1) ≤ 9 * 9 := Nat.mul_le_mul (by omega) (by omega)
  omega
theorem c_byRule {g : zIJ} {n : Nat} {X Y : Nat → Int} (h : CB g n X Y) (hN : Near X Y n) {e : Nat} (he : e < 36) (hh : eHi e < n) (r : Int32) : zev mX2_byRule 0 [.ref 4, .int (nI e), .int r] g = some (some (.long (ruE X Y r.toInt (eLo e) (eHi e))), g) := by
  obtain ⟨e1, e2, e3, e4, e5⟩ := edge_of he
  have hl : eLo e < n := by omega
  obtain ⟨a1, a2, a3, a4, a5, a6⟩ := ab_sml hN hl hh
  have s1 := sq_sml a3 a4
  have s2 := sq_sml a5 a6
  obtain ⟨t1, t2⟩ := ij_sml (by omega : eLo e < 9) e2
  rw [uX2_byRule_0, zin_n he (by omega), nI_clamp (by omega : e < 2 ^ 31), e4, e5, zin_n (by omega : eLo e < 9) (by omega), zin_n (by omega : eHi e < 9) (by omega), nI_clamp (by omega : eLo e < 2 ^ 31), nI_clamp (by omega : eHi e < 2 ^ 31), (h.2.2 _ hl).1, (h.2.2 _ hl).2, (h.2.2 _ hh).1, (h.2.2 _ hh).2, cI_sub, cI_sub, zab a1, zab a2, lI_c (by unfold Sml; omega), lI_c (by unfold Sml; omega), lI_mul, lI_mul, lI_add, lI_add, zmxl (by unfold Sml; omega) (by unfold Sml; omega), zmnl (by unfold Sml; omega) (by unfold Sml; omega), nI_add, nI_1, nI_1, nI_mul, nI_lI t1, nI_lI t2]
  unfold ruE ruV
  generalize r.toInt = R
  cases decide (R = 0)
  · cases decide (R = 1)
    · cases decide (R = 2)
      · cases decide (R = 3)
        · cases decide (R = 4)
          · cases decide (R = 5) <;> rfl
          · rfl
        · rfl
      · rfl
    · rfl
  · rfl
theorem r_byRule {g : zIJ} {n : Nat} {X Y : Nat → Int} (h : RB g n X Y) (hN : Near X Y n) {i j : Nat} (hi : i < n) (hj : j < n) (r : Int32) : zev mX12_byRule 0 [.ref 250, .int (nI i), .int (nI j), .int r] g = some (some (.long (ruE X Y r.toInt i j)), g) := by
  have hn := h.1
  obtain ⟨a1, a2, a3, a4, a5, a6⟩ := ab_sml hN hi hj
  have s1 := sq_sml a3 a4
  have s2 := sq_sml a5 a6
  obtain ⟨t1, t2⟩ := ij_sml (by omega : i < 9) (by omega : j < 9)
  rw [uX12_byRule_0, r_x h hi, zaI_some, r_x h hj, zaI_some, r_y h hi, zaI_some, r_y h hj, zaI_some, cI_sub, cI_sub, zab a1, zab a2, cI_mul, cI_mul, cI_add, cI_add, zmx (by unfold Sml; omega) (by unfold Sml; omega), zmn (by unfold Sml; omega) (by unfold Sml; omega), lI_c (by unfold Sml; omega), lI_c (by unfold Sml; omega), lI_c (by unfold Sml; split <;> omega), lI_c (by unfold Sml; split <;> omega), nI_add, nI_1, nI_1, nI_mul, nI_lI t1, nI_lI t2]
  unfold ruE ruV
  generalize r.toInt = R
  cases decide (R = 0)
  · cases decide (R = 1)
    · cases decide (R = 2)
      · cases decide (R = 3)
        · cases decide (R = 4)
          · cases decide (R = 5) <;> rfl
          · rfl
        · rfl
      · rfl
    · rfl
  · rfl
/-- an edge measured -/
def eMs (s : Nat → Int32) (m : Nat) (X Y : Nat → Int) (r : Int) (i j : Nat) : Int64 × Bool := chV s m 0 (ruE X Y r i j, false)
theorem c_measureEdge {g : zIJ} {s : Nat → Int32} {m : Nat} (h : CBo g 4 s) (hw : Wf s) (hm : s 1 = nI m) (m8 : m ≤ 8) {e : Nat} (he : e < 36) (hh : eHi e < nS s) (r : Int32) : zev mX2_measureEdge 0 [.ref 232, .ref 4, .int (nI e), .int r] g = some (none, mset g (eMs s m (XS s) (YS s) r.toInt (eLo e) (eHi e)).1 (eMs s m (XS s) (YS s) r.toInt (eLo e) (eHi e)).2) := by
  rw [uX2_measureEdge_0, c_byRule (cb_s h hw) hw.2.1.2.1 he hh, zaL_some, uX2_start_0, zaV_some, show ∀ v, zsI (zsL g 232 2 v) 232 3 0 = mset g v false from fun v => rfl, c_takeSteps h hm m8, zaV_some]
  rfl
theorem c_isRule (g : zIJ) (a : Int32) : zev mX11_isRule 0 [.int a] g = some (some (.int (bI (decide (0 ≤ a.toInt ∧ a.toInt ≤ 6)))), g) := by
  rw [uX11_isRule_0, lt_d, lt_d, show (0 : Int32).toInt = 0 from rfl, show (6 : Int32).toInt = 6 from rfl]
  by_cases q1 : a.toInt < 0
  · rw [decide_eq_true q1, decide_eq_false (show ¬ (0 ≤ a.toInt ∧ a.toInt ≤ 6) by omega)]; rfl
  · by_cases q2 : 6 < a.toInt
    · rw [decide_eq_false q1, decide_eq_true q2, decide_eq_false (show ¬ (0 ≤ a.toInt ∧ a.toInt ≤ 6) by omega)]; rfl
    · rw [decide_eq_false q1, decide_eq_false q2, decide_eq_true (show (0 ≤ a.toInt ∧ a.toInt ≤ 6) by omega)]; rfl
theorem c_isFold (g : zIJ) (a : Int32) : zev mX11_isFold 0 [.int a] g = some (some (.int (bI (decide (0 ≤ a.toInt ∧ a.toInt ≤ 3)))), g) := by
  rw [uX11_isFold_0, lt_d, lt_d, show (0 : Int32).toInt = 0 from rfl, show (3 : Int32).toInt = 3 from rfl]
  by_cases q1 : a.toInt < 0
  · rw [decide_eq_true q1, decide_eq_false (show ¬ (0 ≤ a.toInt ∧ a.toInt ≤ 3) by omega)]; rfl
  · by_cases q2 : 3 < a.toInt
    · rw [decide_eq_false q1, decide_eq_true q2, decide_eq_false (show ¬ (0 ≤ a.toInt ∧ a.toInt ≤ 3) by omega)]; rfl
    · rw [decide_eq_false q1, decide_eq_false q2, decide_eq_true (show (0 ≤ a.toInt ∧ a.toInt ≤ 3) by omega)]; rfl
theorem p_ofEdge (a b c : Int32) : PairC (fun g => zev mX11_ofEdge 0 [.ref 3, .int a, .int b, .int c] g) (fun g => zev mX12_ofEdge 0 [.ref 250, .int a, .int b, .int c] g) := by
  intro σ g t hw h ht
  have hn := wf_n hw.1
  have cb := cb_s h.1.1 hw.1
  obtain ⟨m, m8, em⟩ := hw.1.2.2.2.2
  cases q1 : (zin a (nS σ.s) && (zin b (nS σ.s) && !decide (a = b))) with
  | false =>
    refine ⟨fL 0, fdn σ 0, wfs_fdn hw 0, ?_, fun g' r => ?_⟩
    · show COk (zev mX11_ofEdge 0 _ g) _ _ _ _
      rw [uX11_ofEdge_0, c_isPair cb, zaI_some, q1]
      exact cok_le (cok_findL (k := 0) h (fr_refl _ g) (by omega)) (by omega : t ≤ t + 2)
    · show ROk (zev mX12_ofEdge 0 _ g') _ _ _
      rw [uX12_ofEdge_0, r_areTwo (rb_s r.1.1 hw.1), zaI_some, q1]
      exact rok_findL (k := 0) r hw (fr_refl tR g') (by omega)
  | true =>
    by_cases q2 : 0 ≤ c.toInt ∧ c.toInt ≤ 6
    · obtain ⟨i, j, hi, hj, nij, e1, e2⟩ := two_of hn q1
      subst e1 e2
      obtain ⟨k1, k2, k3, k4, k5⟩ := edge_at (by omega : i < 9) (by omega : j < 9) nij
      have hh : eHi (eN i j) < nS σ.s := by rw [k4]; omega
      obtain ⟨p, ep⟩ : ∃ p, p = eMs σ.s m (XS σ.s) (YS σ.s) c.toInt i j := ⟨_, rfl⟩
      have ep2 : eMs σ.s m (XS σ.s) (YS σ.s) c.toInt (eLo (eN i j)) (eHi (eN i j)) = p := by
        rw [ep, k3, k4]
        unfold eMs
        rcases Nat.lt_or_ge i j with z | z
        · rw [Nat.min_eq_left (by omega), Nat.max_eq_right (by omega)]
        · rw [Nat.min_eq_right (by omega), Nat.max_eq_left (by omega), ruE_sy]
      have cc : zev mX11_ofEdge 0 [.ref 3, .int (nI i), .int (nI j), .int c] g = cond p.2 (zaL (zev mX11_longFinding 0 [.ref 3, .int 7] (mset g p.1 p.2)) fun x4 g3 => some (some (.long x4), g3)) (some (some (.long p.1), mset g p.1 p.2)) := by
        rw [uX11_ofEdge_0, c_isPair cb, zaI_some, q1, c_isRule, zaI_some, decide_eq_true q2, c_edgeOf g (by omega : i < 9) (by omega : j < 9) nij, zaI_some, c_measureEdge h.1.1 hw.1 em m8 k1 hh, zaV_some, mset_3, mset_2, bI_0, ep2]
        cases p.2 <;> rfl
      have rr : ∀ g', RI g' σ → zev mX12_ofEdge 0 [.ref 250, .int (nI i), .int (nI j), .int c] g' = cond p.2 (zaL (zev mX12_findsLong 0 [.ref 250, .int 7] (rset g' p.2)) fun x4 g3 => some (some (.long x4), g3)) (some (some (.long p.1), rset g' p.2)) := fun g' r => by
        rw [uX12_ofEdge_0, r_areTwo (rb_s r.1.1 hw.1), zaI_some, q1, r_inI g' c (lo := 0) (l := 0) (hi := 6) (h := 6) rfl rfl, zaI_some, decide_eq_true q2, show zsI g' 250 21 0 = rset g' false from rfl, r_byRule (rb_s (ri_rs r hw false).1.1 hw.1) hw.1.2.1.2.1 hi hj, zaL_some, r_chained r.1.1 em m8, zaL_some, rset_v, bI_0, show chV σ.s m 0 (ruE (XS σ.s) (YS σ.s) c.toInt i j, false) = p from ep.symm]
        cases p.2 <;> rfl
      have ic := ci_w h (fr_ms g p.1 p.2)
      have fc := fr_wc (fr_ms g p.1 p.2)
      cases q : p.2 with
      | true =>
        refine ⟨fL 7, fdn σ 7, wfs_fdn hw 7, ?_, fun g' r => ?_⟩
        · show COk (zev mX11_ofEdge 0 _ g) _ _ _ _
          rw [cc]
          rw [q] at ic fc ⊢
          exact cok_le (cok_findL (k := 7) ic fc (by omega)) (by omega : t ≤ t + 2)
        · show ROk (zev mX12_ofEdge 0 _ g') _ _ _
          rw [rr g' r, q]
          exact rok_findL (k := 7) (ri_rs r hw true) hw (fr_rs g' true) (by omega)
      | false =>
        refine ⟨.long p.1, σ, hw, ?_, fun g' r => ?_⟩
        · show COk (zev mX11_ofEdge 0 _ g) _ _ _ _
          rw [cc]
          rw [q] at ic fc ⊢
          exact cok_of ic fc (by omega)
        · show ROk (zev mX12_ofEdge 0 _ g') _ _ _
          rw [rr g' r, q]
          exact rok_of (ri_rs r hw false) (fr_rs g' false)
    · refine ⟨fL 0, fdn σ 0, wfs_fdn hw 0, ?_, fun g' r => ?_⟩
      · show COk (zev mX11_ofEdge 0 _ g) _ _ _ _
        rw [uX11_ofEdge_0, c_isPair cb, zaI_some, q1, c_isRule, zaI_some, decide_eq_false q2]
        exact cok_le (cok_findL (k := 0) h (fr_refl _ g) (by omega)) (by omega : t ≤ t + 2)
      · show ROk (zev mX12_ofEdge 0 _ g') _ _ _
        rw [uX12_ofEdge_0, r_areTwo (rb_s r.1.1 hw.1), zaI_some, q1, r_inI g' c (lo := 0) (l := 0) (hi := 6) (h := 6) rfl rfl, zaI_some, decide_eq_false q2]
        exact rok_findL (k := 0) r hw (fr_refl tR g') (by omega)
