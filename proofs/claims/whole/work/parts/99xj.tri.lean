/-! Splits of a polygon: sets of inner edges of which no two are interleaved. -/
def IL (k l k' l' : Nat) : Prop := (k < k' ∧ k' < l ∧ l < l') ∨ (k' < k ∧ k < l' ∧ l' < l)
def jnD (m : Nat) (D : Nat → Nat → Bool) (i j : Nat) : Bool := decide (i = 0 ∧ j = m - 1) || D i j
def btD (m : Nat) (E : Nat → Nat → Nat) (i j : Nat) : Nat := if i = 0 ∧ j = m - 1 then 0 else 2 ^ E i j
def TRD (m : Nat) (D : Nat → Nat → Bool) (E : Nat → Nat → Nat) : Nat → Nat → Nat → List Nat
  | 0, _, _ => []
  | d + 1, i, j => if j = i + 1 then [0] else cond (jnD m D i j) ((List.range (j - i - 1)).flatMap (fun k => (TRD m D E d i (i + 1 + k)).flatMap (fun a => (TRD m D E d (i + 1 + k) j).flatMap (fun b => [a ||| b ||| btD m E i j])))) []
def SCD (m : Nat) (D : Nat → Nat → Bool) : Nat → Nat → Nat → Nat
  | 0, _, _ => 0
  | d + 1, i, j => if j = i + 1 then 1 else cond (jnD m D i j) (sumR (fun k => SCD m D d i (i + 1 + k) * SCD m D d (i + 1 + k) j) (j - i - 1)) 0
def DOK (m : Nat) (D : Nat → Nat → Bool) : Prop := ∀ k l, D k l = true → k + 2 ≤ l ∧ l < m ∧ ¬ (k = 0 ∧ l = m - 1)
def EOK (m : Nat) (E : Nat → Nat → Nat) : Prop := ∀ k l, k < l → l < m → E k l < 36 ∧ ∀ k' l', k' < l' → l' < m → E k l = E k' l' → k = k' ∧ l = l'
def TSD (D : Nat → Nat → Bool) (E : Nat → Nat → Nat) (i j x : Nat) : Prop := (∀ e, x.testBit e = true → ∃ k l, i ≤ k ∧ l ≤ j ∧ D k l = true ∧ e = E k l) ∧ (D i j = true → x.testBit (E i j) = true) ∧ (∀ k l k' l', D k l = true → D k' l' = true → x.testBit (E k l) = true → x.testBit (E k' l') = true → ¬ IL k l k' l') ∧ (∀ k l, i ≤ k → l ≤ j → D k l = true → (∀ k' l', D k' l' = true → x.testBit (E k' l') = true → ¬ IL k l k' l') → x.testBit (E k l) = true)
def APD (m : Nat) (D : Nat → Nat → Bool) : Prop := ∀ R : Nat → Nat → Prop, (∀ k l, R k l → D k l = true) → (∀ k l k' l', R k l → R k' l' → ¬ IL k l k' l') → ∀ i j, i + 2 ≤ j → j < m → ((i = 0 ∧ j = m - 1) ∨ R i j) → ∃ w, i < w ∧ w < j ∧ (w = i + 1 ∨ (D i w = true ∧ ∀ k l, R k l → ¬ IL i w k l)) ∧ (j = w + 1 ∨ (D w j = true ∧ ∀ k l, R k l → ¬ IL w j k l))
theorem len_fmr {β : Type} (f : Nat → List β) : ∀ n, ((List.range n).flatMap f).length = sumR (fun k => (f k).length) n
  | 0 => rfl
  | n + 1 => by
    rw [List.range_succ, List.flatMap_append, List.length_append, len_fmr f n, sumR_s]
    simp only [List.flatMap_cons, List.flatMap_nil, List.append_nil]
theorem len_fmc {α β : Type} (f : α → List β) (v : Nat) : ∀ l : List α, (∀ x, x ∈ l → (f x).length = v) → (l.flatMap f).length = l.length * v
  | [], _ => by rw [List.flatMap_nil, List.length_nil, List.length_nil, Nat.zero_mul]
  | a :: l, h => by
    rw [List.flatMap_cons, List.length_append, len_fmc f v l (fun x hx => h x (List.mem_cons_of_mem _ hx)), h a List.mem_cons_self, List.length_cons, Nat.add_mul, Nat.one_mul, Nat.add_comm]
theorem nd_fm {α β : Type} {f : α → List β} : ∀ l : List α, l.Nodup → (∀ x, x ∈ l → (f x).Nodup) → (∀ x y, x ∈ l → y ∈ l → x ≠ y → ∀ z, z ∈ f x → z ∈ f y → False) → (l.flatMap f).Nodup
  | [], _, _, _ => by rw [List.flatMap_nil]; exact List.Pairwise.nil
  | a :: l, h1, h2, h3 => by
    rw [List.flatMap_cons]
    have k := List.pairwise_cons.mp h1
    refine List.pairwise_append.mpr ⟨h2 a List.mem_cons_self, nd_fm l k.2 (fun x hx => h2 x (List.mem_cons_of_mem _ hx)) (fun x y hx hy => h3 x y (List.mem_cons_of_mem _ hx) (List.mem_cons_of_mem _ hy)), fun x hx y hy e => ?_⟩
    obtain ⟨b, hb, hy'⟩ := List.mem_flatMap.mp hy
    exact h3 a b List.mem_cons_self (List.mem_cons_of_mem _ hb) (k.1 b hb) x hx (by rw [e]; exact hy')
theorem or3_at {a b c e : Nat} : (a ||| b ||| c).testBit e = true ↔ (a.testBit e = true ∨ b.testBit e = true ∨ c.testBit e = true) := by
  rw [Nat.testBit_or, Nat.testBit_or, Bool.or_eq_true, Bool.or_eq_true, or_assoc]
section
variable {m : Nat} {D : Nat → Nat → Bool} {E : Nat → Nat → Nat}
theorem sd_len : ∀ d i j, (TRD m D E d i j).length = SCD m D d i j
  | 0, _, _ => rfl
  | d + 1, i, j => by
    unfold TRD SCD
    by_cases e : j = i + 1
    · rw [if_pos e, if_pos e]; rfl
    · rw [if_neg e, if_neg e]
      cases jnD m D i j with
      | false => rfl
      | true =>
        show ((List.range (j - i - 1)).flatMap _).length = sumR _ (j - i - 1)
        rw [len_fmr]
        refine sumR_eq _ (fun k hk => ?_)
        rw [len_fmc _ (SCD m D d (i + 1 + k) j) _ (fun a _ => ?_), sd_len d i (i + 1 + k)]
        rw [len_fmc _ 1 _ (fun b _ => rfl), Nat.mul_one, sd_len d (i + 1 + k) j]
theorem bt_at {i j e : Nat} : (btD m E i j).testBit e = true ↔ (¬ (i = 0 ∧ j = m - 1) ∧ e = E i j) := by
  unfold btD
  by_cases z : i = 0 ∧ j = m - 1
  · rw [if_pos z, Nat.zero_testBit]
    exact ⟨fun q => (by cases q), fun q => (q.1 z).elim⟩
  · rw [if_neg z, Nat.testBit_two_pow, decide_eq_true_iff]
    exact ⟨fun q => ⟨z, q.symm⟩, fun q => q.2.symm⟩
theorem jn_D {i j : Nat} (h : jnD m D i j = true) (n : ¬ (i = 0 ∧ j = m - 1)) : D i j = true := by
  unfold jnD at h
  rw [decide_eq_false n, Bool.false_or] at h
  exact h
theorem ts_join (hD : DOK m D) (hE : EOK m E) {i w j a b : Nat} (h1 : i < w) (h2 : w < j) (hj : j < m) (J : jnD m D i j = true) (J1 : w = i + 1 ∨ D i w = true) (J2 : j = w + 1 ∨ D w j = true) (ha : TSD D E i w a) (hb : TSD D E w j b) : TSD D E i j (a ||| b ||| btD m E i j) := by
  have loc : ∀ k l, D k l = true → (a ||| b ||| btD m E i j).testBit (E k l) = true → (i ≤ k ∧ l ≤ w ∧ a.testBit (E k l) = true) ∨ (w ≤ k ∧ l ≤ j ∧ b.testBit (E k l) = true) ∨ (k = i ∧ l = j) := fun k l dk hx => by
    have kd := hD k l dk
    rcases or3_at.mp hx with q | q | q
    · obtain ⟨k', l', e1, e2, e3, e4⟩ := ha.1 _ q
      have kd' := hD k' l' e3
      have ee := (hE k l (by omega) kd.2.1).2 k' l' (by omega) kd'.2.1 e4
      exact Or.inl ⟨by omega, by omega, q⟩
    · obtain ⟨k', l', e1, e2, e3, e4⟩ := hb.1 _ q
      have kd' := hD k' l' e3
      have ee := (hE k l (by omega) kd.2.1).2 k' l' (by omega) kd'.2.1 e4
      exact Or.inr (Or.inl ⟨by omega, by omega, q⟩)
    · have q2 := bt_at.mp q
      exact Or.inr (Or.inr ((hE k l (by omega) kd.2.1).2 i j (by omega) hj q2.2))
  refine ⟨fun e he => ?_, fun dij => ?_, fun k l k' l' dk dk' hk hk' => ?_, fun k l hik hlj dk fr => ?_⟩
  · rcases or3_at.mp he with q | q | q
    · obtain ⟨k, l, e1, e2, e3, e4⟩ := ha.1 _ q
      exact ⟨k, l, e1, by omega, e3, e4⟩
    · obtain ⟨k, l, e1, e2, e3, e4⟩ := hb.1 _ q
      exact ⟨k, l, by omega, e2, e3, e4⟩
    · have q2 := bt_at.mp q
      exact ⟨i, j, Nat.le_refl i, Nat.le_refl j, jn_D J q2.1, q2.2⟩
  · exact or3_at.mpr (Or.inr (Or.inr (bt_at.mpr ⟨(hD i j dij).2.2, rfl⟩)))
  · have kd := hD k l dk
    have kd' := hD k' l' dk'
    rcases loc k l dk hk with ⟨q1, q2, q3⟩ | ⟨q1, q2, q3⟩ | ⟨q1, q2⟩ <;> rcases loc k' l' dk' hk' with ⟨r1, r2, r3⟩ | ⟨r1, r2, r3⟩ | ⟨r1, r2⟩
    · exact ha.2.2.1 k l k' l' dk dk' q3 r3
    · unfold IL; omega
    · unfold IL; omega
    · unfold IL; omega
    · exact hb.2.2.1 k l k' l' dk dk' q3 r3
    · unfold IL; omega
    · unfold IL; omega
    · unfold IL; omega
    · unfold IL; omega
  · have kd := hD k l dk
    by_cases c1 : l ≤ w
    · exact or3_at.mpr (Or.inl (ha.2.2.2 k l hik c1 dk (fun k' l' dk' hk' => fr k' l' dk' (or3_at.mpr (Or.inl hk')))))
    · by_cases c2 : w ≤ k
      · exact or3_at.mpr (Or.inr (Or.inl (hb.2.2.2 k l c2 hlj dk (fun k' l' dk' hk' => fr k' l' dk' (or3_at.mpr (Or.inr (Or.inl hk')))))))
      · by_cases c3 : k = i
        · by_cases c4 : l = j
          · subst c3; subst c4
            exact or3_at.mpr (Or.inr (Or.inr (bt_at.mpr ⟨kd.2.2, rfl⟩)))
          · have dw : D w j = true := by
              rcases J2 with z | z
              · omega
              · exact z
            exact (fr w j dw (or3_at.mpr (Or.inr (Or.inl (hb.2.1 dw)))) (Or.inl ⟨by omega, by omega, by omega⟩)).elim
        · have dw : D i w = true := by
            rcases J1 with z | z
            · omega
            · exact z
          exact (fr i w dw (or3_at.mpr (Or.inl (ha.2.1 dw))) (Or.inr ⟨by omega, by omega, by omega⟩)).elim
noncomputable def rsD (D : Nat → Nat → Bool) (E : Nat → Nat → Nat) (x lo hi : Nat) : Nat := mkM (fun e => x.testBit e && cdec (∃ k l, lo ≤ k ∧ l ≤ hi ∧ D k l = true ∧ e = E k l)) 36
theorem rs_at {x lo hi e : Nat} : (rsD D E x lo hi).testBit e = true ↔ (e < 36 ∧ x.testBit e = true ∧ ∃ k l, lo ≤ k ∧ l ≤ hi ∧ D k l = true ∧ e = E k l) := by
  unfold rsD
  rw [mkM_at, Bool.and_eq_true, Bool.and_eq_true, decide_eq_true_iff]
  exact ⟨fun q => ⟨q.1, q.2.1, cdec_of q.2.2⟩, fun q => ⟨q.1, q.2.1, cdec_t q.2.2⟩⟩
theorem rs_p (hD : DOK m D) (hE : EOK m E) {x lo hi k l : Nat} (dk : D k l = true) : (rsD D E x lo hi).testBit (E k l) = true ↔ (x.testBit (E k l) = true ∧ lo ≤ k ∧ l ≤ hi) := by
  have kd := hD k l dk
  have ke := hE k l (by omega) kd.2.1
  refine ⟨fun q => ?_, fun q => rs_at.mpr ⟨ke.1, q.1, k, l, q.2.1, q.2.2, dk, rfl⟩⟩
  obtain ⟨_, q2, k', l', e1, e2, e3, e4⟩ := rs_at.mp q
  have kd' := hD k' l' e3
  have ee := ke.2 k' l' (by omega) kd'.2.1 e4
  exact ⟨q2, by omega, by omega⟩
theorem ts_rs (hD : DOK m D) (hE : EOK m E) {i j x lo hi : Nat} (h : TSD D E i j x) (h1 : i ≤ lo) (h2 : hi ≤ j) (hb : D lo hi = true → x.testBit (E lo hi) = true) (hl : ∀ k l, D k l = true → x.testBit (E k l) = true → (lo ≤ k ∧ l ≤ hi) ∨ l ≤ lo ∨ hi ≤ k ∨ (k ≤ lo ∧ hi ≤ l)) : TSD D E lo hi (rsD D E x lo hi) := by
  refine ⟨fun e he => (rs_at.mp he).2.2, fun d => (rs_p hD hE d).mpr ⟨hb d, Nat.le_refl _, Nat.le_refl _⟩, fun k l k' l' dk dk' hk hk' => h.2.2.1 k l k' l' dk dk' ((rs_p hD hE dk).mp hk).1 ((rs_p hD hE dk').mp hk').1, fun k l hik hlj dk fr => ?_⟩
  have kd := hD k l dk
  refine (rs_p hD hE dk).mpr ⟨h.2.2.2 k l (by omega) (by omega) dk (fun k' l' dk' hk' => ?_), hik, hlj⟩
  have kd' := hD k' l' dk'
  rcases hl k' l' dk' hk' with z | z | z | z
  · exact fr k' l' dk' ((rs_p hD hE dk').mpr ⟨hk', z.1, z.2⟩)
  · unfold IL; omega
  · unfold IL; omega
  · unfold IL; omega
theorem ts_cut (hD : DOK m D) (hE : EOK m E) (hA : APD m D) {i j x : Nat} (hij : i + 2 ≤ j) (hj : j < m) (J : jnD m D i j = true) (h : TSD D E i j x) : ∃ w a b, i < w ∧ w < j ∧ (w = i + 1 ∨ D i w = true) ∧ (j = w + 1 ∨ D w j = true) ∧ TSD D E i w a ∧ TSD D E w j b ∧ x = a ||| b ||| btD m E i j := by
  obtain ⟨w, w1, w2, k1, k2⟩ := hA (fun k l => D k l = true ∧ x.testBit (E k l) = true) (fun k l q => q.1) (fun k l k' l' q r => h.2.2.1 k l k' l' q.1 r.1 q.2 r.2) i j hij hj (by
    by_cases z : i = 0 ∧ j = m - 1
    · exact Or.inl z
    · exact Or.inr ⟨jn_D J z, h.2.1 (jn_D J z)⟩)
  have u1 : w = i + 1 ∨ (D i w = true ∧ x.testBit (E i w) = true) := by
    rcases k1 with z | z
    · exact Or.inl z
    · exact Or.inr ⟨z.1, h.2.2.2 i w (Nat.le_refl i) (by omega) z.1 (fun k' l' dk' hk' => z.2 k' l' ⟨dk', hk'⟩)⟩
  have u2 : j = w + 1 ∨ (D w j = true ∧ x.testBit (E w j) = true) := by
    rcases k2 with z | z
    · exact Or.inl z
    · exact Or.inr ⟨z.1, h.2.2.2 w j (by omega) (Nat.le_refl j) z.1 (fun k' l' dk' hk' => z.2 k' l' ⟨dk', hk'⟩)⟩
  have rng : ∀ k l, D k l = true → x.testBit (E k l) = true → i ≤ k ∧ l ≤ j := fun k l dk hk => by
    obtain ⟨k', l', e1, e2, e3, e4⟩ := h.1 _ hk
    have kd := hD k l dk
    have kd' := hD k' l' e3
    have ee := (hE k l (by omega) kd.2.1).2 k' l' (by omega) kd'.2.1 e4
    omega
  have loc : ∀ k l, D k l = true → x.testBit (E k l) = true → l ≤ w ∨ w ≤ k ∨ (k = i ∧ l = j) := fun k l dk hk => by
    have r := rng k l dk hk
    refine Decidable.byContradiction (fun z => ?_)
    by_cases c : k = i
    · rcases u2 with y | y
      · omega
      · exact h.2.2.1 k l w j dk y.1 hk y.2 (Or.inl ⟨by omega, by omega, by omega⟩)
    · rcases u1 with y | y
      · omega
      · exact h.2.2.1 k l i w dk y.1 hk y.2 (Or.inr ⟨by omega, by omega, by omega⟩)
  refine ⟨w, rsD D E x i w, rsD D E x w j, w1, w2, u1.imp id (fun z => z.1), u2.imp id (fun z => z.1), ts_rs hD hE h (Nat.le_refl i) (by omega) (fun d => ?_) (fun k l dk hk => ?_), ts_rs hD hE h (by omega) (Nat.le_refl j) (fun d => ?_) (fun k l dk hk => ?_), ?_⟩
  · rcases u1 with y | y
    · have := hD _ _ d; omega
    · exact y.2
  · have r := rng k l dk hk
    have := loc k l dk hk
    omega
  · rcases u2 with y | y
    · have := hD _ _ d; omega
    · exact y.2
  · have r := rng k l dk hk
    have := loc k l dk hk
    omega
  · refine Nat.eq_of_testBit_eq (fun e => Bool.eq_iff_iff.mpr ⟨fun q => ?_, fun q => ?_⟩)
    · obtain ⟨k, l, e1, e2, e3, e4⟩ := h.1 e q
      rw [e4] at q ⊢
      have kd := hD k l e3
      rcases loc k l e3 q with z | z | z
      · exact or3_at.mpr (Or.inl ((rs_p hD hE e3).mpr ⟨q, e1, z⟩))
      · exact or3_at.mpr (Or.inr (Or.inl ((rs_p hD hE e3).mpr ⟨q, z, e2⟩)))
      · rw [z.1, z.2]
        exact or3_at.mpr (Or.inr (Or.inr (bt_at.mpr ⟨by omega, rfl⟩)))
    · rcases or3_at.mp q with z | z | z
      · exact (rs_at.mp z).2.1
      · exact (rs_at.mp z).2.1
      · have y := bt_at.mp z
        rw [y.2]
        exact h.2.1 (jn_D J y.1)
theorem tr_ne {d i j a : Nat} (h : a ∈ TRD m D E d i j) : j = i + 1 ∨ jnD m D i j = true := by
  cases d with
  | zero => unfold TRD at h; cases h
  | succ d =>
    by_cases e : j = i + 1
    · exact Or.inl e
    · refine Or.inr (bt (fun z => ?_))
      unfold TRD at h
      rw [if_neg e, z] at h
      cases h
theorem tr_in {d i j x : Nat} (n : j ≠ i + 1) (J : jnD m D i j = true) : x ∈ TRD m D E (d + 1) i j ↔ ∃ k, k < j - i - 1 ∧ ∃ a, a ∈ TRD m D E d i (i + 1 + k) ∧ ∃ b, b ∈ TRD m D E d (i + 1 + k) j ∧ x = a ||| b ||| btD m E i j := by
  rw [show TRD m D E (d + 1) i j = if j = i + 1 then [0] else cond (jnD m D i j) ((List.range (j - i - 1)).flatMap (fun k => (TRD m D E d i (i + 1 + k)).flatMap (fun a => (TRD m D E d (i + 1 + k) j).flatMap (fun b => [a ||| b ||| btD m E i j])))) [] from rfl, if_neg n, J]
  show x ∈ (List.range (j - i - 1)).flatMap _ ↔ _
  constructor
  · intro h
    obtain ⟨k, hk, h⟩ := List.mem_flatMap.mp h
    obtain ⟨a, ha, h⟩ := List.mem_flatMap.mp h
    obtain ⟨b, hb, h⟩ := List.mem_flatMap.mp h
    exact ⟨k, List.mem_range.mp hk, a, ha, b, hb, List.mem_singleton.mp h⟩
  · intro ⟨k, hk, a, ha, b, hb, e⟩
    exact List.mem_flatMap.mpr ⟨k, List.mem_range.mpr hk, List.mem_flatMap.mpr ⟨a, ha, List.mem_flatMap.mpr ⟨b, hb, List.mem_singleton.mpr e⟩⟩⟩
theorem ts_1 (hD : DOK m D) {i x : Nat} : TSD D E i (i + 1) x ↔ x = 0 := by
  constructor
  · intro h
    refine Nat.eq_of_testBit_eq (fun e => ?_)
    rw [Nat.zero_testBit]
    apply bf
    intro q
    obtain ⟨k, l, e1, e2, e3, e4⟩ := h.1 e q
    have := hD k l e3
    omega
  · intro h
    rw [h]
    refine ⟨fun e he => ?_, fun d => ?_, fun k l k' l' _ _ hk _ => ?_, fun k l h1 h2 d _ => ?_⟩
    · rw [Nat.zero_testBit] at he; cases he
    · have := hD _ _ d; omega
    · rw [Nat.zero_testBit] at hk; cases hk
    · have := hD _ _ d; omega
theorem tr_mem (hD : DOK m D) (hE : EOK m E) (hA : APD m D) : ∀ d i j x, i < j → j < m → j ≤ i + d → (j = i + 1 ∨ jnD m D i j = true) → (x ∈ TRD m D E d i j ↔ TSD D E i j x)
  | 0, i, j, x, h1, _, h3, _ => by omega
  | d + 1, i, j, x, h1, h2, h3, hJ => by
    by_cases e : j = i + 1
    · subst e
      rw [ts_1 hD, show TRD m D E (d + 1) i (i + 1) = if i + 1 = i + 1 then [0] else _ from rfl, if_pos rfl]
      exact List.mem_singleton
    · have J : jnD m D i j = true := by
        rcases hJ with z | z
        · exact (e z).elim
        · exact z
      rw [tr_in e J]
      constructor
      · intro ⟨k, hk, a, ha, b, hb, ex⟩
        have j1 := tr_ne ha
        have j2 := tr_ne hb
        rw [ex]
        refine ts_join hD hE (w := i + 1 + k) (by omega) (by omega) h2 J ?_ ?_ ((tr_mem hD hE hA d i (i + 1 + k) a (by omega) (by omega) (by omega) j1).mp ha) ((tr_mem hD hE hA d (i + 1 + k) j b (by omega) h2 (by omega) j2).mp hb)
        · rcases j1 with z | z
          · exact Or.inl z
          · exact Or.inr (jn_D z (by omega))
        · rcases j2 with z | z
          · exact Or.inl z
          · exact Or.inr (jn_D z (by omega))
      · intro h
        obtain ⟨w, a, b, w1, w2, u1, u2, ta, tb, ex⟩ := ts_cut hD hE hA (by omega) h2 J h
        have ew : i + 1 + (w - i - 1) = w := by omega
        have toJ : ∀ {p q}, D p q = true → jnD m D p q = true := fun z => by unfold jnD; rw [z, Bool.or_true]
        refine ⟨w - i - 1, by omega, a, ?_, b, ?_, ex⟩
        · rw [ew]
          exact (tr_mem hD hE hA d i w a w1 (by omega) (by omega) (u1.imp id toJ)).mpr ta
        · rw [ew]
          exact (tr_mem hD hE hA d w j b w2 h2 (by omega) (u2.imp id toJ)).mpr tb
/-- the two parts of a split -/
theorem ts_left (hD : DOK m D) (hE : EOK m E) {i w j a b a' b' : Nat} (h1 : i < w) (h2 : w < j) (hj : j < m) (ha : TSD D E i w a) (hb' : TSD D E w j b') (e : a ||| b ||| btD m E i j = a' ||| b' ||| btD m E i j) : ∀ t, a.testBit t = true → a'.testBit t = true := fun t q => by
  obtain ⟨k, l, e1, e2, e3, e4⟩ := ha.1 t q
  have kd := hD k l e3
  have q2 : (a' ||| b' ||| btD m E i j).testBit t = true := by rw [← e]; exact or3_at.mpr (Or.inl q)
  rcases or3_at.mp q2 with z | z | z
  · exact z
  · obtain ⟨k', l', f1, f2, f3, f4⟩ := hb'.1 t z
    have kd' := hD k' l' f3
    have ee := (hE k l (by omega) kd.2.1).2 k' l' (by omega) kd'.2.1 (by rw [← e4]; exact f4)
    omega
  · have y := bt_at.mp z
    have ee := (hE k l (by omega) kd.2.1).2 i j (by omega) hj (by rw [← e4]; exact y.2)
    omega
theorem ts_right (hD : DOK m D) (hE : EOK m E) {i w j a b a' b' : Nat} (h1 : i < w) (h2 : w < j) (hj : j < m) (hb : TSD D E w j b) (ha' : TSD D E i w a') (e : a ||| b ||| btD m E i j = a' ||| b' ||| btD m E i j) : ∀ t, b.testBit t = true → b'.testBit t = true := fun t q => by
  obtain ⟨k, l, e1, e2, e3, e4⟩ := hb.1 t q
  have kd := hD k l e3
  have q2 : (a' ||| b' ||| btD m E i j).testBit t = true := by rw [← e]; exact or3_at.mpr (Or.inr (Or.inl q))
  rcases or3_at.mp q2 with z | z | z
  · obtain ⟨k', l', f1, f2, f3, f4⟩ := ha'.1 t z
    have kd' := hD k' l' f3
    have ee := (hE k l (by omega) kd.2.1).2 k' l' (by omega) kd'.2.1 (by rw [← e4]; exact f4)
    omega
  · exact z
  · have y := bt_at.mp z
    have ee := (hE k l (by omega) kd.2.1).2 i j (by omega) hj (by rw [← e4]; exact y.2)
    omega
theorem tr_nd (hD : DOK m D) (hE : EOK m E) (hA : APD m D) : ∀ d i j, i < j → j < m → j ≤ i + d → (TRD m D E d i j).Nodup
  | 0, i, j, _, _, _ => List.Pairwise.nil
  | d + 1, i, j, hij, hj, hd => by
    rw [show TRD m D E (d + 1) i j = if j = i + 1 then [0] else cond (jnD m D i j) ((List.range (j - i - 1)).flatMap (fun k => (TRD m D E d i (i + 1 + k)).flatMap (fun a => (TRD m D E d (i + 1 + k) j).flatMap (fun b => [a ||| b ||| btD m E i j])))) [] from rfl]
    by_cases e : j = i + 1
    · rw [if_pos e]; exact List.pairwise_singleton _ _
    · rw [if_neg e]
      cases J : jnD m D i j with
      | false => exact List.Pairwise.nil
      | true =>
        show ((List.range (j - i - 1)).flatMap _).Nodup
        have tm : ∀ p q a, p < q → q < m → q ≤ p + d → a ∈ TRD m D E d p q → TSD D E p q a := fun p q a h1 h2 h3 h4 => (tr_mem hD hE hA d p q a h1 h2 h3 (tr_ne h4)).mp h4
        refine nd_fm _ List.nodup_range (fun k hk => ?_) (fun k k' hk hk' nk x hx hx' => ?_)
        · have kk := List.mem_range.mp hk
          refine nd_fm _ (tr_nd hD hE hA d i (i + 1 + k) (by omega) (by omega) (by omega)) (fun a ha => ?_) (fun a a' ha ha' na x hx hx' => ?_)
          · refine nd_fm _ (tr_nd hD hE hA d (i + 1 + k) j (by omega) hj (by omega)) (fun b _ => List.pairwise_singleton _ _) (fun b b' hb hb' nb x hx hx' => ?_)
            have e1 := List.mem_singleton.mp hx
            have e2 := List.mem_singleton.mp hx'
            rw [e1] at e2
            have t1 := tm (i + 1 + k) j b (by omega) hj (by omega) hb
            have t2 := tm (i + 1 + k) j b' (by omega) hj (by omega) hb'
            have t3 := tm i (i + 1 + k) a (by omega) (by omega) (by omega) ha
            exact nb (Nat.eq_of_testBit_eq (fun t => Bool.eq_iff_iff.mpr ⟨ts_right hD hE (by omega) (by omega) hj t1 t3 e2 t, ts_right hD hE (by omega) (by omega) hj t2 t3 e2.symm t⟩))
          · obtain ⟨b, hb, hx⟩ := List.mem_flatMap.mp hx
            obtain ⟨b', hb', hx'⟩ := List.mem_flatMap.mp hx'
            have e1 := List.mem_singleton.mp hx
            have e2 := List.mem_singleton.mp hx'
            rw [e1] at e2
            have t1 := tm (i + 1 + k) j b (by omega) hj (by omega) hb
            have t2 := tm (i + 1 + k) j b' (by omega) hj (by omega) hb'
            have t3 := tm i (i + 1 + k) a (by omega) (by omega) (by omega) ha
            have t4 := tm i (i + 1 + k) a' (by omega) (by omega) (by omega) ha'
            exact na (Nat.eq_of_testBit_eq (fun t => Bool.eq_iff_iff.mpr ⟨ts_left hD hE (by omega) (by omega) hj t3 t2 e2 t, ts_left hD hE (by omega) (by omega) hj t4 t1 e2.symm t⟩))
        · have x1 : x ∈ TRD m D E (d + 1) i j := (tr_in e J).mpr (by
            obtain ⟨a, ha, hx⟩ := List.mem_flatMap.mp hx
            obtain ⟨b, hb, hx⟩ := List.mem_flatMap.mp hx
            exact ⟨k, List.mem_range.mp hk, a, ha, b, hb, List.mem_singleton.mp hx⟩)
          have xs := (tr_mem hD hE hA (d + 1) i j x hij hj hd (Or.inr J)).mp x1
          have two : ∀ p p', p < p' → p' < j - i - 1 → x ∈ (TRD m D E d i (i + 1 + p)).flatMap (fun a => (TRD m D E d (i + 1 + p) j).flatMap (fun b => [a ||| b ||| btD m E i j])) → x ∈ (TRD m D E d i (i + 1 + p')).flatMap (fun a => (TRD m D E d (i + 1 + p') j).flatMap (fun b => [a ||| b ||| btD m E i j])) → False := fun p p' hp hp' y y' => by
            obtain ⟨a, ha, y⟩ := List.mem_flatMap.mp y
            obtain ⟨b, hb, y⟩ := List.mem_flatMap.mp y
            obtain ⟨a', ha', y'⟩ := List.mem_flatMap.mp y'
            obtain ⟨b', hb', y'⟩ := List.mem_flatMap.mp y'
            have e1 := List.mem_singleton.mp y
            have e2 := List.mem_singleton.mp y'
            have d1 : D (i + 1 + p) j = true := by
              rcases tr_ne hb with z | z
              · omega
              · exact jn_D z (by omega)
            have d2 : D i (i + 1 + p') = true := by
              rcases tr_ne ha' with z | z
              · omega
              · exact jn_D z (by omega)
            have b1 : x.testBit (E (i + 1 + p) j) = true := by
              rw [e1]
              exact or3_at.mpr (Or.inr (Or.inl ((tm _ _ b (by omega) hj (by omega) hb).2.1 d1)))
            have b2 : x.testBit (E i (i + 1 + p')) = true := by
              rw [e2]
              exact or3_at.mpr (Or.inl ((tm _ _ a' (by omega) (by omega) (by omega) ha').2.1 d2))
            exact xs.2.2.1 _ _ _ _ d2 d1 b2 b1 (Or.inl ⟨by omega, by omega, by omega⟩)
          have k1 := List.mem_range.mp hk
          have k2 := List.mem_range.mp hk'
          by_cases c : k < k'
          · exact two k k' c k2 hx hx'
          · exact two k' k (by omega) k1 hx' hx
end
