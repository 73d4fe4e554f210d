/-! The hull as the class finds it. -/
/-- the first of the points in their order -/
def Fst (X Y : Nat → Int) (n f : Nat) : Prop := f < n ∧ ∀ a, a < n → a ≠ f → ahd X Y f a
/-- the hull: m of them, s 0 .. s (m - 1) -/
def Hul (X Y : Nat → Int) (n m : Nat) (s : Nat → Nat) : Prop := (n = 0 ∧ m = 0) ∨ (Fst X Y n (s 0) ∧ 1 ≤ m ∧ m ≤ n ∧ (∀ k, k < m → s k < n) ∧ (∀ i j, i < m → j < m → s i = s j → i = j) ∧ (∀ k, k + 1 < m → HB X Y n (s k) (s (k + 1))) ∧ ((n = 1 ∧ m = 1) ∨ (2 ≤ n ∧ HB X Y n (s (m - 1)) (s 0))))
section
variable {X Y : Nat → Int} {n : Nat}
theorem fst_ex (hd : Dist X Y n) (h : 1 ≤ n) : ∃ f, Fst X Y n f := by
  obtain ⟨f, hf, _, hmin⟩ := ex_min (X := fun _ => True) (R := ahd X Y) (fun x _ => ahd_irr) (fun x y z _ _ _ => ahd_tr) (List.range n) ⟨0, List.mem_range.mpr (by omega), trivial⟩
  have hf := List.mem_range.mp hf
  refine ⟨f, hf, fun a ha na => ?_⟩
  rcases ahd_tot (hd a f ha hf na) with q | q
  · exact (hmin a (List.mem_range.mpr ha) trivial q).elim
  · exact q
theorem fst_one {f f' : Nat} (h : Fst X Y n f) (h' : Fst X Y n f') : f = f' := by
  apply Classical.byContradiction
  intro e
  have q1 := h.2 f' h'.1 (Ne.symm e)
  have q2 := h'.2 f h.1 e
  exact ahd_irr (ahd_tr q1 q2)
theorem hul_ex (h : GP X Y n) (hd : Dist X Y n) : ∃ m s, Hul X Y n m s := by
  by_cases e0 : n = 0
  · exact ⟨0, id, Or.inl ⟨e0, rfl⟩⟩
  obtain ⟨f, hf⟩ := fst_ex hd (by omega)
  by_cases e1 : n = 1
  · refine ⟨1, fun _ => f, Or.inr ⟨hf, Nat.le_refl _, by omega, fun k _ => hf.1, fun i j hi hj _ => by omega, fun k hk => by omega, Or.inl ⟨e1, rfl⟩⟩⟩
  · obtain ⟨m, m1, m2, m3, m4⟩ := hs_len h (by omega) hf.1 hf.2
    have all := hs_all h (by omega) hf.1 hf.2
    refine ⟨m, hSeq X Y n f, Or.inr ⟨hf, m1, m2, fun k _ => (all k).1, m4, fun k _ => (all k).2, Or.inr ⟨by omega, ?_⟩⟩⟩
    have := (all (m - 1)).2
    rw [show m - 1 + 1 = m from by omega, m3] at this
    exact this
theorem plc_0 {f : Nat} (hf : Fst X Y n f) : plc X Y n f = 0 := by
  have : ∀ k, k ≤ n → sumR (fun j => cond (ahB X Y j f) 1 0) k = 0 := by
    intro k
    induction k with
    | zero => intro _; rfl
    | succ k ih =>
      intro hk
      unfold sumR
      rw [ih (by omega)]
      have : ahB X Y k f = false := by
        rw [ahB_f]
        intro q
        by_cases e : k = f
        · subst e; exact ahd_irr q
        · exact ahd_irr (ahd_tr q (hf.2 k (by omega) e))
      rw [this]
      rfl
  exact this n (Nat.le_refl n)
end
/-- what the plane knows of sides -/
def PL (g : zIJ) (n : Nat) (X Y : Nat → Int) : Prop := ∀ a b, a < n → b < n → a ≠ b → g.1 218 (a * 9 + b) = nI (lfM X Y n a b)
section
variable {g : zIJ} {n : Nat} {X Y : Nat → Int}
def othM (n a b : Nat) : Nat := ((2 ^ n - 1) &&& ((2 ^ n - 1) ^^^ 2 ^ a)) &&& (((2 ^ n - 1) &&& ((2 ^ n - 1) ^^^ 2 ^ a)) ^^^ 2 ^ b)
theorem oth_at (a b i : Nat) : (othM n a b).testBit i = (decide (i < n) && (!decide (i = a) && !decide (i = b))) := by
  unfold othM
  rw [andn_bit, andn_bit, Nat.testBit_two_pow_sub_one]
  have e : ∀ k, (2 ^ k).testBit i = decide (i = k) := by
    intro k
    by_cases q : i = k
    · subst q; rw [Nat.testBit_two_pow_self, decide_eq_true rfl]
    · rw [Nat.testBit_two_pow_of_ne (Ne.symm q), decide_eq_false q]
  rw [e, e]
  cases decide (i < n) <;> cases decide (i = a) <;> cases decide (i = b) <;> rfl
theorem lf_all (hn : n ≤ 9) {a b : Nat} (hb : b < n) (nab : b ≠ a) : lfM X Y n a b = othM n a b ↔ HB X Y n a b := by
  constructor
  · intro e
    refine ⟨hb, nab, fun c hc n1 n2 => ?_⟩
    have := congrArg (fun x => x.testBit c) e
    simp only [oth_at, lfM_at (by omega : c < 9)] at this
    rw [decide_eq_true hc, decide_eq_false n1, decide_eq_false n2] at this
    simpa using this
  · intro h
    refine bit_ext (n := 9) (mkM_lt _ _) (bit_lt (fun i hi => by rw [oth_at, decide_eq_false (by omega : ¬ i < n)]; rfl)) (fun c hc => ?_)
    rw [oth_at, lfM_at hc]
    by_cases q1 : c < n
    · by_cases q2 : c = a
      · rw [decide_eq_true q2]; simp
      · by_cases q3 : c = b
        · rw [decide_eq_true q3]; simp
        · rw [h.2.2 c q1 q2 q3]; simp
    · rw [decide_eq_false q1]; rfl
theorem c_behind (h : PX g n X Y) (hl : PL g n X Y) {a : Nat} (ha : a < n) : ((∀ b, ¬ HB X Y n a b) ∧ zev mX5_behindOnHull 0 [.ref 211, .int (nI a)] g = some (some (.int (-1)), g)) ∨ ∃ b, HB X Y n a b ∧ zev mX5_behindOnHull 0 [.ref 211, .int (nI a)] g = some (some (.int (nI b)), g) := by
  have hn := h.1
  have e1 : ((1 : Int32) <<< (g.1 211 7 &&& 31)) - 1 = nI (2 ^ n - 1) := by
    rw [h.2.1, sh1_i n (by omega)]
    have : 2 ^ n = (2 ^ n - 1) + 1 := by have := Nat.two_pow_pos n; omega
    rw [this, nI_pred]
    rfl
  have lt1 : 2 ^ n - 1 < 2 ^ 9 := by
    have : 2 ^ n ≤ 2 ^ 9 := Nat.pow_le_pow_right (by omega) hn
    have := Nat.two_pow_pos n
    omega
  rw [uX5_behindOnHull_0, e1]
  have step : ∀ b, b < n → zev mX5_behindOnHull 11 [.ref 211, .int (nI a), .int (nI (2 ^ n - 1)), .int (nI b)] g = cond (cdec (HB X Y n a b)) (some (some (.int (nI b)), g)) (zev mX5_behindOnHull 11 [.ref 211, .int (nI a), .int (nI (2 ^ n - 1)), .int (nI (b + 1))] g) := by
    intro b hb
    rw [uX5_behindOnHull_11, h.2.1, nle_d hn hb, nI_de (by omega) (by omega), i_9, zin_n (by omega : a * 9 + b < 81) (by omega), nI_clamp (by omega : a * 9 + b < 2 ^ 31), sh1_i a (by omega), sh1_i b (by omega), nI_andn, nI_andn, nI_1]
    by_cases e : b = a
    · rw [decide_eq_true e, cdec_f (fun q => q.2.1 e)]; rfl
    · rw [decide_eq_false e, hl a b ha hb (Ne.symm e)]
      have lo : othM n a b < 2 ^ 31 := by
        have : othM n a b < 2 ^ 9 := bit_lt (fun i hi => by rw [oth_at, decide_eq_false (by omega : ¬ i < n)]; rfl)
        omega
      have ll : lfM X Y n a b < 2 ^ 31 := by
        have : lfM X Y n a b < 2 ^ 9 := mkM_lt _ _
        omega
      have key : decide (nI (lfM X Y n a b) = nI (othM n a b)) = cdec (HB X Y n a b) := by
        rw [nI_de ll lo]
        by_cases q : HB X Y n a b
        · rw [cdec_t q, decide_eq_true ((lf_all hn hb e).mpr q)]
        · rw [cdec_f q, decide_eq_false (fun k => q ((lf_all hn hb e).mp k))]
      show cond false _ (cond false _ (cond true (cond (!decide (nI (lfM X Y n a b) = nI (othM n a b))) _ _) none)) = _
      rw [key]
      cases cdec (HB X Y n a b) <;> rfl
  have stop : zev mX5_behindOnHull 11 [.ref 211, .int (nI a), .int (nI (2 ^ n - 1)), .int (nI n)] g = some (some (.int (-1)), g) := by
    rw [uX5_behindOnHull_11, h.2.1, le_d hn]; rfl
  rcases zfind (F := fun b => zev mX5_behindOnHull 11 [.ref 211, .int (nI a), .int (nI (2 ^ n - 1)), .int (nI b)] g) (R := fun b => some (some (.int (nI b)), g)) step stop n 0 (by omega) with ⟨q1, q2⟩ | ⟨b, _, _, q3, _, q5⟩
  · exact Or.inl ⟨fun b hb => q1 b (by omega) hb.1 hb, q2⟩
  · exact Or.inr ⟨b, q3, q5⟩
/-- the mask of the first k -/
def hMsk (s : Nat → Nat) : Nat → Nat
  | 0 => 0
  | k + 1 => hMsk s k ||| 2 ^ s k
theorem hMsk_at (s : Nat → Nat) (i : Nat) : ∀ k, (hMsk s k).testBit i = true ↔ ∃ j, j < k ∧ s j = i
  | 0 => by simp [hMsk]
  | k + 1 => by
    unfold hMsk
    rw [set_or, Bool.or_eq_true, hMsk_at s i k, decide_eq_true_iff]
    constructor
    · intro q
      rcases q with ⟨j, q1, q2⟩ | q
      · exact ⟨j, by omega, q2⟩
      · exact ⟨k, by omega, q.symm⟩
    · intro ⟨j, q1, q2⟩
      by_cases e : j = k
      · subst e; exact Or.inr q2.symm
      · exact Or.inl ⟨j, by omega, q2⟩
def tHu (k j : Nat) : Bool := Nat.beq k 216 || (Nat.beq k 211 && (Nat.beq j 8 || Nat.beq j 9))
/-- the hull stands there -/
def PH (g : zIJ) (m : Nat) (s : Nat → Nat) : Prop := g.1 211 8 = nI m ∧ g.1 211 9 = nI (hMsk s m) ∧ ∀ k, k < m → g.1 216 k = nI (s k)
theorem c_findHull (h : PX g n X Y) (hl : PL g n X Y) (hG : GP X Y n) {m : Nat} {s : Nat → Nat} (hH : Hul X Y n m s) (h0 : 1 ≤ n → g.1 214 0 = nI (s 0)) : ∃ g', zev mX5_findHull 0 [.ref 211] g = some (none, g') ∧ zFr tHu g g' ∧ PH g' m s := by
  have hn := h.1
  have f0 : zFr tHu g (zsI (zsI g 211 8 0) 211 9 0) := fr_tr (fr_I g 0 rfl) (fr_I _ 0 rfl)
  have e7 : (zsI (zsI g 211 8 0) 211 9 0).1 211 7 = nI n := by rw [(f0 211 7 rfl).1]; exact h.2.1
  have e214 : (zsI (zsI g 211 8 0) 211 9 0).1 214 0 = g.1 214 0 := (f0 214 0 rfl).1
  have i8 : (zsI (zsI g 211 8 0) 211 9 0).1 211 8 = nI 0 := by rw [zI_col _ _ (by decide : (8 : Nat) ≠ 9), zI_same]; rfl
  have i9 : (zsI (zsI g 211 8 0) 211 9 0).1 211 9 = nI 0 := by rw [zI_same]; rfl
  rw [uX5_findHull_0, e7]
  generalize zsI (zsI g 211 8 0) 211 9 0 = g0 at f0 e7 e214 i8 i9
  rcases hH with ⟨rfl, rfl⟩ | ⟨hf, m1, mn, hs, hi, hb, hcl⟩
  · refine ⟨g0, ?_, f0, i8, i9, fun k hk => by omega⟩
    show zev mX5_findHull 30 [.ref 211, .int (-1), .int 0] g0 = _
    rw [uX5_findHull_30, e7]
    rfl
  · rw [decide_eq_false (nI_nle (by omega : 0 < n) (by omega))]
    show ∃ g', zev mX5_findHull 30 [.ref 211, .int (g0.1 214 0), .int 0] g0 = _ ∧ _
    rw [e214, h0 (by omega)]
    have pst : ∀ {g' : zIJ}, zFr tHu g g' → PX g' n X Y ∧ PL g' n X Y := fun f => ⟨px_of h (f 211 7 rfl).1 (funext fun j => (f 212 j rfl).1) (funext fun j => (f 213 j rfl).1), fun a b ha hb' nab => ((f 218 (a * 9 + b) rfl).1).trans (hl a b ha hb' nab)⟩
    have mlt : ∀ k, k ≤ m → hMsk s k < 2 ^ 9 := fun k hk => bit_lt (fun i hi9 => by
      cases q : (hMsk s k).testBit i with
      | false => rfl
      | true =>
        obtain ⟨j, j1, j2⟩ := (hMsk_at s i k).mp q
        have := hs j (by omega)
        omega)
    have stopm : ∀ g1 : zIJ, zFr tHu g g1 → PH g1 m s → ∀ at_ : Int32, ((n = 1 ∧ m = 1) ∧ at_ = -1) ∨ (2 ≤ n ∧ at_ = nI (s 0)) → zev mX5_findHull 30 [.ref 211, .int at_, .int (nI m)] g1 = some (none, g1) := by
      intro g1 f1 p1 at_ hat
      have h1 := (pst f1).1
      rw [uX5_findHull_30, h1.2.1]
      by_cases e : n ≤ m
      · rw [decide_eq_true (nI_le e (by omega))]; rfl
      · rw [decide_eq_false (nI_ge (by omega : m < n) (by omega))]
        rcases hat with ⟨⟨q1, q2⟩, _⟩ | ⟨q1, rfl⟩
        · omega
        · rw [decide_eq_false (nI_pos (by have := hs 0 (by omega); omega)), i_and0, i_sshr0 (by have := hs 0 (by omega); omega), p1.2.1, nI_bit (by have := hs 0 (by omega); omega), (hMsk_at s (s 0) m).mpr ⟨0, by omega, rfl⟩]
          rfl
    -- from k on
    have run : ∀ (d k : Nat) (g1 : zIJ), k + d + 1 = m → zFr tHu g g1 → PH g1 k s → ∃ g', zev mX5_findHull 30 [.ref 211, .int (nI (s k)), .int (nI k)] g1 = some (none, g') ∧ zFr tHu g g' ∧ PH g' m s := by
      intro d
      induction d with
      | zero =>
        intro k g1 hk f1 p1
        have h1 := (pst f1).1
        have sk := hs k (by omega)
        have nb : (hMsk s k).testBit (s k) = false := by
          cases q : (hMsk s k).testBit (s k) with
          | false => rfl
          | true =>
            obtain ⟨j, j1, j2⟩ := (hMsk_at s (s k) k).mp q
            have := hi j k (by omega) (by omega) j2
            omega
        rw [uX5_findHull_30, h1.2.1, nle_d hn (by omega : k < n), decide_eq_false (nI_pos (by omega)), i_and0, i_sshr0 (by omega), p1.2.1, nI_bit (by omega), nb, zin_n (by omega : k < 9) (by omega), nI_clamp (by omega : k < 2 ^ 31)]
        have r9 : (zsI g1 216 k (nI (s k))).1 211 9 = nI (hMsk s k) := by rw [zI_row _ _ (by decide : (211 : Nat) ≠ 216)]; exact p1.2.1
        rw [r9, sh1_i (s k) (by omega), nI_or]
        have r8 : (zsI (zsI g1 216 k (nI (s k))) 211 9 (nI (hMsk s k ||| 2 ^ s k))).1 211 8 = nI k := by rw [zI_col _ _ (by decide : (8 : Nat) ≠ 9), zI_row _ _ (by decide : (211 : Nat) ≠ 216)]; exact p1.1
        rw [r8, nI_1]
        have f2 : zFr tHu g (zsI (zsI (zsI g1 216 k (nI (s k))) 211 9 (nI (hMsk s k ||| 2 ^ s k))) 211 8 (nI (k + 1))) := fr_tr f1 (fr_tr (fr_tr (fr_I g1 _ rfl) (fr_I _ _ rfl)) (fr_I _ _ rfl))
        have p2 : PH (zsI (zsI (zsI g1 216 k (nI (s k))) 211 9 (nI (hMsk s k ||| 2 ^ s k))) 211 8 (nI (k + 1))) (k + 1) s := by
          refine ⟨zI_same _ _ _ _, ?_, fun j hj => ?_⟩
          · rw [zI_col _ _ (by decide : (9 : Nat) ≠ 8), zI_same]; rfl
          · rw [zI_row _ _ (by decide : (216 : Nat) ≠ 211), zI_row _ _ (by decide : (216 : Nat) ≠ 211)]
            by_cases e : j = k
            · subst e; exact zI_same _ _ _ _
            · rw [zI_col _ _ e]; exact p1.2.2 j (by omega)
        generalize zsI (zsI (zsI g1 216 k (nI (s k))) 211 9 (nI (hMsk s k ||| 2 ^ s k))) 211 8 (nI (k + 1)) = g2 at f2 p2
        have hkm : k + 1 = m := by omega
        rw [hkm] at p2 ⊢
        show ∃ g', (zaI (zev mX5_behindOnHull 0 [.ref 211, .int (nI (s k))] g2) fun x2 g1 => zev mX5_findHull 30 [.ref 211, .int x2, .int (nI m)] g1) = some (none, g') ∧ _
        rcases c_behind (pst f2).1 (pst f2).2 sk with ⟨q1, q2⟩ | ⟨b, q1, q2⟩
        · rw [q2, zaI_some]
          refine ⟨g2, stopm g2 f2 p2 (-1) (Or.inl ⟨?_, rfl⟩), f2, p2⟩
          rcases hcl with q | ⟨q3, q4⟩
          · exact q
          · rw [show m - 1 = k from by omega] at q4
            exact (q1 _ q4).elim
        · rw [q2, zaI_some]
          rcases hcl with q | ⟨q3, q4⟩
          · have := q1.1
            have := q1.2.1
            omega
          · rw [show m - 1 = k from by omega] at q4
            have e := hb_one hG sk q1 q4
            refine ⟨g2, stopm g2 f2 p2 _ (Or.inr ⟨q3, by rw [e]⟩), f2, p2⟩
      | succ d ih =>
        intro k g1 hk f1 p1
        have h1 := (pst f1).1
        have sk := hs k (by omega)
        have nb : (hMsk s k).testBit (s k) = false := by
          cases q : (hMsk s k).testBit (s k) with
          | false => rfl
          | true =>
            obtain ⟨j, j1, j2⟩ := (hMsk_at s (s k) k).mp q
            have := hi j k (by omega) (by omega) j2
            omega
        rw [uX5_findHull_30, h1.2.1, nle_d hn (by omega : k < n), decide_eq_false (nI_pos (by omega)), i_and0, i_sshr0 (by omega), p1.2.1, nI_bit (by omega), nb, zin_n (by omega : k < 9) (by omega), nI_clamp (by omega : k < 2 ^ 31)]
        have r9 : (zsI g1 216 k (nI (s k))).1 211 9 = nI (hMsk s k) := by rw [zI_row _ _ (by decide : (211 : Nat) ≠ 216)]; exact p1.2.1
        rw [r9, sh1_i (s k) (by omega), nI_or]
        have r8 : (zsI (zsI g1 216 k (nI (s k))) 211 9 (nI (hMsk s k ||| 2 ^ s k))).1 211 8 = nI k := by rw [zI_col _ _ (by decide : (8 : Nat) ≠ 9), zI_row _ _ (by decide : (211 : Nat) ≠ 216)]; exact p1.1
        rw [r8, nI_1]
        have f2 : zFr tHu g (zsI (zsI (zsI g1 216 k (nI (s k))) 211 9 (nI (hMsk s k ||| 2 ^ s k))) 211 8 (nI (k + 1))) := fr_tr f1 (fr_tr (fr_tr (fr_I g1 _ rfl) (fr_I _ _ rfl)) (fr_I _ _ rfl))
        have p2 : PH (zsI (zsI (zsI g1 216 k (nI (s k))) 211 9 (nI (hMsk s k ||| 2 ^ s k))) 211 8 (nI (k + 1))) (k + 1) s := by
          refine ⟨zI_same _ _ _ _, ?_, fun j hj => ?_⟩
          · rw [zI_col _ _ (by decide : (9 : Nat) ≠ 8), zI_same]; rfl
          · rw [zI_row _ _ (by decide : (216 : Nat) ≠ 211), zI_row _ _ (by decide : (216 : Nat) ≠ 211)]
            by_cases e : j = k
            · subst e; exact zI_same _ _ _ _
            · rw [zI_col _ _ e]; exact p1.2.2 j (by omega)
        generalize zsI (zsI (zsI g1 216 k (nI (s k))) 211 9 (nI (hMsk s k ||| 2 ^ s k))) 211 8 (nI (k + 1)) = g2 at f2 p2
        show ∃ g', (zaI (zev mX5_behindOnHull 0 [.ref 211, .int (nI (s k))] g2) fun x2 g1 => zev mX5_findHull 30 [.ref 211, .int x2, .int (nI (k + 1))] g1) = some (none, g') ∧ _
        have hk1 := hb k (by omega)
        rcases c_behind (pst f2).1 (pst f2).2 sk with ⟨q1, q2⟩ | ⟨b, q1, q2⟩
        · exact (q1 _ hk1).elim
        · rw [q2, zaI_some, hb_one hG sk q1 hk1]
          exact ih (k + 1) g2 (by omega) f2 p2
    exact run (m - 1) 0 g0 (by omega) f0 ⟨i8, i9, fun k hk => by omega⟩
end
