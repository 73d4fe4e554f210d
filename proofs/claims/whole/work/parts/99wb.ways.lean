/-! Ways. -/
theorem inj_surj : ∀ (n : Nat) (f : Nat → Nat), (∀ i, i < n → f i < n) → (∀ i j, i < n → j < n → f i = f j → i = j) → ∀ k, k < n → ∃ i, i < n ∧ f i = k
  | 0, _, _, _, k, hk => by omega
  | n + 1, f, h1, h2, k, hk => by
    by_cases q : ∃ i, i < n ∧ f i = n
    · obtain ⟨i0, hi0, e0⟩ := q
      have fn : f n < n := by
        have := h1 n (by omega)
        have : f n ≠ n := fun z => by
          have := h2 i0 n (by omega) (by omega) (e0.trans z.symm)
          omega
        omega
      by_cases kn : k = n
      · exact ⟨i0, by omega, by omega⟩
      · obtain ⟨i, hi, e⟩ := inj_surj n (fun i => if f i = n then f n else f i) (fun i hi => by
          show (if f i = n then f n else f i) < n
          split
          · exact fn
          · have := h1 i (by omega); omega) (fun i j hi hj e => by
          have e' : (if f i = n then f n else f i) = (if f j = n then f n else f j) := e
          by_cases a : f i = n
          · by_cases b : f j = n
            · exact h2 i j (by omega) (by omega) (a.trans b.symm)
            · rw [if_pos a, if_neg b] at e'
              have := h2 n j (by omega) (by omega) e'
              omega
          · by_cases b : f j = n
            · rw [if_neg a, if_pos b] at e'
              have := h2 i n (by omega) (by omega) e'
              omega
            · rw [if_neg a, if_neg b] at e'
              exact h2 i j (by omega) (by omega) e') k (by omega)
        have e' : (if f i = n then f n else f i) = k := e
        by_cases a : f i = n
        · rw [if_pos a] at e'
          exact ⟨n, by omega, e'⟩
        · rw [if_neg a] at e'
          exact ⟨i, by omega, e'⟩
    · have lt : ∀ i, i < n → f i < n := fun i hi => by
        have := h1 i (by omega)
        have : f i ≠ n := fun z => q ⟨i, hi, z⟩
        omega
      have ih := inj_surj n f lt (fun i j hi hj => h2 i j (by omega) (by omega))
      by_cases fn : f n = n
      · by_cases kn : k = n
        · exact ⟨n, by omega, by omega⟩
        · obtain ⟨i, hi, e⟩ := ih k (by omega)
          exact ⟨i, by omega, e⟩
      · have := h1 n (by omega)
        obtain ⟨i, hi, e⟩ := ih (f n) (by omega)
        have := h2 i n (by omega) (by omega) e
        omega
/-- the points in their order -/
def Ord (X Y : Nat → Int) (n : Nat) (od : Nat → Nat) : Prop := ∀ k, k < n → od k < n ∧ plc X Y n (od k) = k
section
variable {g : zIJ} {n : Nat} {X Y : Nat → Int} {od : Nat → Nat}
theorem ord_ex (hd : Dist X Y n) : ∃ od, Ord X Y n od := by
  have s := inj_surj n (plc X Y n) (fun i hi => plc_lt hi) (fun i j hi hj e => by
    refine Classical.byContradiction (fun z => plc_inj hd hi hj z e))
  refine ⟨fun k => if h : k < n then Classical.choose (s k h) else 0, fun k hk => ?_⟩
  show (if h : k < n then Classical.choose (s k h) else 0) < n ∧ plc X Y n (if h : k < n then Classical.choose (s k h) else 0) = k
  rw [dif_pos hk]
  exact Classical.choose_spec (s k hk)
theorem od_inj (h : Ord X Y n od) {j k : Nat} (hj : j < n) (hk : k < n) (e : od j = od k) : j = k := by
  have := (h j hj).2
  rw [e, (h k hk).2] at this
  exact this.symm
theorem od_ahd (h : Ord X Y n od) (hd : Dist X Y n) {j k : Nat} (hj : j < n) (hk : k < n) : ahd X Y (od j) (od k) ↔ j < k := by
  rw [← plc_iff hd (h j hj).1 (h k hk).1, (h j hj).2, (h k hk).2]
theorem od_plc (h : Ord X Y n od) (hd : Dist X Y n) {i : Nat} (hi : i < n) : od (plc X Y n i) = i := by
  have p := h _ (plc_lt (X := X) (Y := Y) hi)
  refine Classical.byContradiction (fun z => plc_inj hd p.1 hi z p.2)
theorem od_fst (h : Ord X Y n od) (hd : Dist X Y n) (hn : 0 < n) : Fst X Y n (od 0) := by
  refine ⟨(h 0 hn).1, fun a ha na => ?_⟩
  rw [← od_plc h hd ha]
  refine (od_ahd h hd hn (plc_lt ha)).mpr ?_
  refine Nat.pos_of_ne_zero (fun z => na ?_)
  rw [← od_plc h hd ha, z]
theorem od_lst (h : Ord X Y n od) (hd : Dist X Y n) (hn : 0 < n) : Lst X Y n (od (n - 1)) := by
  refine ⟨(h (n - 1) (by omega)).1, fun a ha na => ?_⟩
  have pl := plc_lt (X := X) (Y := Y) ha
  rw [← od_plc h hd ha]
  refine (od_ahd h hd pl (by omega)).mpr ?_
  have : plc X Y n a ≠ n - 1 := fun z => na (by rw [← od_plc h hd ha, z])
  omega
theorem pok_od (h : POK g n X Y) (ho : Ord X Y n od) {k : Nat} (hk : k < n) : g.1 214 k = nI (od k) := by
  have := h.2.2.2.1 (od k) (ho k hk).1
  rw [(ho k hk).2] at this
  exact this
theorem bt1 {P i : Nat} (hi : i < 32) : decide ((nI P >>> (nI i &&& 31)) &&& 1 = 1) = P.testBit i := by rw [i_and1, i_sshr0 hi, nI_bit hi]
/-- the next one on the path -/
theorem r_nextOn (h : RB g n X Y) (hN : Near X Y n) (hd : Dist X Y n) {P a : Nat} (ha : a < n) (hP : g.1 250 18 = nI P) : (∃ b, NxP X Y n P a b ∧ zev mX12_nextOn 0 [.ref 250, .int (nI a)] g = some (some (.int (nI b)), g)) ∨ ((∀ b, b < n → P.testBit b = true → ¬ ahd X Y a b) ∧ zev mX12_nextOn 0 [.ref 250, .int (nI a)] g = some (some (.int (-1)), g)) := by
  have hn := h.1
  rw [uX12_nextOn_0]
  refine zloop (F := fun i s => zev mX12_nextOn 4 [.ref 250, .int (nI a), .int s, .int (nI i)] g) (I := fun i s => (s = -1 ∧ ∀ d, d < i → P.testBit d = true → ¬ ahd X Y a d) ∨ ∃ b, b < i ∧ s = nI b ∧ P.testBit b = true ∧ ahd X Y a b ∧ ∀ d, d < i → P.testBit d = true → ahd X Y a d → d ≠ b → ahd X Y b d) (Post := fun r => (∃ b, NxP X Y n P a b ∧ r = some (some (.int (nI b)), g)) ∨ ((∀ b, b < n → P.testBit b = true → ¬ ahd X Y a b) ∧ r = some (some (.int (-1)), g))) (lo := 0) (n := n) (fun i s _ hi I1 => ?_) (fun s I1 => ?_) n 0 (-1) (Nat.le_refl _) (by omega) (Or.inl ⟨rfl, fun d hd => by omega⟩)
  · have step : zev mX12_nextOn 4 [.ref 250, .int (nI a), .int s, .int (nI i)] g = cond (P.testBit i && ahB X Y a i) (cond (decide (s < 0)) (zev mX12_nextOn 4 [.ref 250, .int (nI a), .int (nI i), .int (nI (i + 1))] g) (zaI (zev mX12_isAhead 0 [.ref 250, .int (nI i), .int s] g) fun x6 g5 => cond (decide (x6 = 0)) (zev mX12_nextOn 4 [.ref 250, .int (nI a), .int s, .int (nI (i + 1))] g5) (zev mX12_nextOn 4 [.ref 250, .int (nI a), .int (nI i), .int (nI (i + 1))] g5))) (zev mX12_nextOn 4 [.ref 250, .int (nI a), .int s, .int (nI (i + 1))] g) := by
      rw [uX12_nextOn_4, r_points h, zaI_some, decide_eq_false (nI_ge (a := i) (b := n) hi (by omega)), hP, bt1 (by omega), r_isAhead h hN ha hi, zaI_some, bI_0]
      simp only [nI_1]
      cases P.testBit i
      · rfl
      · cases ahB X Y a i <;> rfl
    rw [step]
    cases q : (P.testBit i && ahB X Y a i) with
    | false =>
      refine ⟨s, rfl, ?_⟩
      have nq : ∀ d, d < i + 1 → P.testBit d = true → ahd X Y a d → d < i := fun d hd pd ad => by
        refine Nat.lt_of_le_of_ne (by omega) (fun z => ?_)
        rw [z] at pd ad
        rw [pd, ahB_iff.mpr ad] at q
        exact absurd q (by decide)
      rcases I1 with ⟨e, I2⟩ | ⟨b, hb, e, pb, ab, I2⟩
      · exact Or.inl ⟨e, fun d hd pd ad => I2 d (nq d hd pd ad) pd ad⟩
      · exact Or.inr ⟨b, by omega, e, pb, ab, fun d hd pd ad nd => I2 d (nq d hd pd ad) pd ad nd⟩
    | true =>
      rw [Bool.and_eq_true] at q
      obtain ⟨pi, ai⟩ := q
      have ai := ahB_iff.mp ai
      rcases I1 with ⟨e, I2⟩ | ⟨b, hb, e, pb, ab, I2⟩
      · subst e
        refine ⟨nI i, rfl, Or.inr ⟨i, by omega, rfl, pi, ai, fun d hd pd ad nd => absurd ad (I2 d (by omega) pd)⟩⟩
      · subst e
        rw [show decide (nI b < 0) = false from decide_eq_false (nI_n0 (by omega)), r_isAhead h hN hi (by omega), zaI_some, bI_0]
        cases z : ahB X Y i b with
        | true =>
          have z := ahB_iff.mp z
          refine ⟨nI i, rfl, Or.inr ⟨i, by omega, rfl, pi, ai, fun d hd pd ad nd => ?_⟩⟩
          by_cases e : d = b
          · rw [e]; exact z
          · exact ahd_tr z (I2 d (by omega) pd ad e)
        | false =>
          have z := ahB_f.mp z
          refine ⟨nI b, rfl, Or.inr ⟨b, by omega, rfl, pb, ab, fun d hd' pd ad nd => ?_⟩⟩
          by_cases e : d = i
          · rw [e]
            rcases ahd_tot (hd b i (by omega) hi (by omega)) with k | k
            · exact k
            · exact absurd k z
          · exact I2 d (by omega) pd ad nd
  · have fin : zev mX12_nextOn 4 [.ref 250, .int (nI a), .int s, .int (nI n)] g = some (some (.int s), g) := by
      rw [uX12_nextOn_4, r_points h, zaI_some, decide_eq_true (nI_le (Nat.le_refl n) (by omega))]; rfl
    rw [fin]
    rcases I1 with ⟨e, I2⟩ | ⟨b, hb, e, pb, ab, I2⟩
    · subst e
      exact Or.inr ⟨I2, rfl⟩
    · subst e
      exact Or.inl ⟨b, ⟨hb, pb, ab, I2⟩, rfl⟩
end
/-! sums over sets -/
def SmL (f : Nat → Nat) : List Nat → Nat → Nat
  | [], Q => f Q
  | a :: l, Q => SmL f l Q + SmL f l (Q ||| 2 ^ a)
def rlL : Nat → List Nat
  | 0 => []
  | n + 1 => n :: rlL n
theorem sumR_cat (f : Nat → Nat) (m : Nat) : ∀ k, sumR f (m + k) = sumR f m + sumR (fun i => f (m + i)) k
  | 0 => by simp [sumR]
  | k + 1 => by
    show sumR f (m + k + 1) = _
    simp only [sumR]
    rw [sumR_cat f m k]
    omega
theorem sumR_ex {f f' : Nat → Nat} : ∀ n, (∀ i, i < n → f i = f' i) → sumR f n = sumR f' n
  | 0, _ => rfl
  | n + 1, h => by
    simp only [sumR]
    rw [sumR_ex n (fun i hi => h i (by omega)), h n (by omega)]
theorem sum_SmL (f : Nat → Nat) : ∀ (n Q : Nat), sumR (fun S => f (S ||| Q)) (2 ^ n) = SmL f (rlL n) Q
  | 0, Q => by
    show sumR _ 1 = f Q
    simp [sumR]
  | n + 1, Q => by
    rw [show 2 ^ (n + 1) = 2 ^ n + 2 ^ n from by rw [Nat.pow_succ]; omega, sumR_cat, sum_SmL f n Q]
    show _ = SmL f (rlL n) Q + SmL f (rlL n) (Q ||| 2 ^ n)
    rw [← sum_SmL f n (Q ||| 2 ^ n)]
    congr 1
    refine sumR_ex _ (fun S hS => ?_)
    have : 2 ^ n + S = 2 ^ n ||| S := by
      have := Nat.two_pow_add_eq_or_of_lt hS 1
      simpa using this
    rw [this, Nat.or_comm (2 ^ n) S, Nat.or_assoc, Nat.or_comm (2 ^ n) Q]
theorem SmL_perm (f : Nat → Nat) {l l' : List Nat} (h : l.Perm l') : ∀ Q, SmL f l Q = SmL f l' Q := by
  induction h with
  | nil => intro Q; rfl
  | cons a _ ih => intro Q; show SmL f _ Q + SmL f _ (Q ||| 2 ^ a) = SmL f _ Q + SmL f _ (Q ||| 2 ^ a); rw [ih, ih]
  | swap a b l =>
    intro Q
    show (SmL f l Q + SmL f l (Q ||| 2 ^ a)) + (SmL f l (Q ||| 2 ^ b) + SmL f l (Q ||| 2 ^ b ||| 2 ^ a)) = (SmL f l Q + SmL f l (Q ||| 2 ^ b)) + (SmL f l (Q ||| 2 ^ a) + SmL f l (Q ||| 2 ^ a ||| 2 ^ b))
    rw [Nat.or_assoc, Nat.or_assoc, Nat.or_comm (2 ^ b) (2 ^ a)]
    omega
  | trans _ _ ih1 ih2 => intro Q; rw [ih1, ih2]
theorem perm_nd : ∀ (l l' : List Nat), l.Nodup → l'.Nodup → (∀ x, x ∈ l ↔ x ∈ l') → l.Perm l'
  | [], l', _, _, h => by
    cases l' with
    | nil => exact List.Perm.refl _
    | cons a t => exact absurd ((h a).mpr (List.mem_cons_self)) (by simp)
  | a :: t, l', h1, h2, h => by
    have am : a ∈ l' := (h a).mp List.mem_cons_self
    refine List.Perm.trans (List.Perm.cons a (perm_nd t (l'.erase a) (List.nodup_cons.mp h1).2 (List.Nodup.erase a h2) (fun x => ?_))) (List.perm_cons_erase am).symm
    rw [List.Nodup.mem_erase_iff h2]
    constructor
    · intro hx
      exact ⟨fun z => (List.nodup_cons.mp h1).1 (z ▸ hx), (h x).mp (List.mem_cons_of_mem a hx)⟩
    · intro ⟨n1, hx⟩
      rcases List.mem_cons.mp ((h x).mpr hx) with z | z
      · exact absurd z n1
      · exact z
theorem SmL_0 {f : Nat → Nat} : ∀ (l : List Nat) (Q : Nat), (∀ S, (∀ b, Q.testBit b = true → S.testBit b = true) → (∀ b, S.testBit b = true → Q.testBit b = true ∨ b ∈ l) → f S = 0) → SmL f l Q = 0
  | [], Q, h => h Q (fun b z => z) (fun b z => Or.inl z)
  | a :: l, Q, h => by
    show SmL f l Q + SmL f l (Q ||| 2 ^ a) = 0
    rw [SmL_0 l Q (fun S h1 h2 => h S h1 (fun b z => by
      rcases h2 b z with y | y
      · exact Or.inl y
      · exact Or.inr (List.mem_cons_of_mem a y))), SmL_0 l (Q ||| 2 ^ a) (fun S h1 h2 => h S (fun b z => h1 b (by rw [Nat.testBit_or, z]; rfl)) (fun b z => by
      rcases h2 b z with y | y
      · rw [Nat.testBit_or, Nat.testBit_two_pow, Bool.or_eq_true] at y
        rcases y with y | y
        · exact Or.inl y
        · exact Or.inr (by rw [of_decide_eq_true y]; exact List.mem_cons_self)
      · exact Or.inr (List.mem_cons_of_mem a y)))]
/-! ways by places -/
def wyD (bar : Nat → Nat → Bool) (n : Nat) : Nat → Nat → Nat → Nat
  | 0, _, j => if j + 1 = n then 1 else 0
  | k + 1, i, j => wyD bar n k (i + 1) j + cond (bar j i) 0 (wyD bar n k (i + 1) i)
def WyG (bar : Nat → Nat → Bool) (n : Nat) (od : Nat → Nat) (S : Nat) : Prop := S.testBit (od 0) = true ∧ S.testBit (od (n - 1)) = true ∧ ∀ p q, p < q → q < n → S.testBit (od p) = true → S.testBit (od q) = true → (∀ r, p < r → r < q → S.testBit (od r) = false) → bar p q = false
def olL (od : Nat → Nat) : Nat → Nat → List Nat
  | 0, _ => []
  | k + 1, i => od i :: olL od k (i + 1)
theorem olL_mem (od : Nat → Nat) (x : Nat) : ∀ k i, x ∈ olL od k i ↔ ∃ p, i ≤ p ∧ p < i + k ∧ x = od p
  | 0, i => by
    constructor
    · intro h; cases h
    · intro ⟨p, h1, h2, _⟩; omega
  | k + 1, i => by
    show x ∈ od i :: olL od k (i + 1) ↔ _
    rw [List.mem_cons, olL_mem od x k (i + 1)]
    constructor
    · intro h
      rcases h with h | ⟨p, h1, h2, h3⟩
      · exact ⟨i, by omega, by omega, h⟩
      · exact ⟨p, by omega, by omega, h3⟩
    · intro ⟨p, h1, h2, h3⟩
      by_cases e : p = i
      · subst e; exact Or.inl h3
      · exact Or.inr ⟨p, by omega, by omega, h3⟩
section
variable {X Y : Nat → Int} {n : Nat} {od : Nat → Nat} {bar : Nat → Nat → Bool}
theorem olL_nd (h : Ord X Y n od) : ∀ k i, i + k = n → (olL od k i).Nodup
  | 0, i, _ => List.nodup_nil
  | k + 1, i, e => by
    refine List.nodup_cons.mpr ⟨fun z => ?_, olL_nd h k (i + 1) (by omega)⟩
    obtain ⟨p, h1, h2, h3⟩ := (olL_mem od _ k (i + 1)).mp z
    have := od_inj h (by omega) (by omega) h3
    omega
theorem rlL_mem (x : Nat) : ∀ n, x ∈ rlL n ↔ x < n
  | 0 => by
    constructor
    · intro h; cases h
    · intro h; omega
  | n + 1 => by
    show x ∈ n :: rlL n ↔ _
    rw [List.mem_cons, rlL_mem x n]
    omega
theorem rlL_nd : ∀ n, (rlL n).Nodup
  | 0 => List.nodup_nil
  | n + 1 => List.nodup_cons.mpr ⟨fun z => by have := (rlL_mem n n).mp z; omega, rlL_nd n⟩
/-- as far as place i it is decided; j is the last one chosen -/
def WyS (bar : Nat → Nat → Bool) (n : Nat) (od : Nat → Nat) (Q i j : Nat) : Prop := j < i ∧ i ≤ n ∧ (∀ b, Q.testBit b = true → ∃ p, p < i ∧ b = od p) ∧ Q.testBit (od 0) = true ∧ Q.testBit (od j) = true ∧ (∀ r, j < r → r < i → Q.testBit (od r) = false) ∧ ∀ p q, p < q → q < i → Q.testBit (od p) = true → Q.testBit (od q) = true → (∀ r, p < r → r < q → Q.testBit (od r) = false) → bar p q = false
theorem wy_sum (h : Ord X Y n od) : ∀ (k i Q j : Nat), i + k = n → WyS bar n od Q i j → SmL (fun S => cond (cdec (WyG bar n od S)) 1 0) (olL od k i) Q = wyD bar n k i j
  | 0, i, Q, j, e, hS => by
    obtain ⟨h1, h2, h3, h4, h5, h6, h7⟩ := hS
    show cond (cdec (WyG bar n od Q)) 1 0 = if j + 1 = n then 1 else 0
    by_cases q : j + 1 = n
    · rw [if_pos q, cdec_t ⟨h4, by rw [show n - 1 = j from by omega]; exact h5, fun p q h8 h9 => h7 p q h8 (by omega)⟩]; rfl
    · rw [if_neg q, cdec_f (fun z => ?_)]
      · rfl
      · have := h6 (n - 1) (by omega) (by omega)
        rw [z.2.1] at this
        exact absurd this (by decide)
  | k + 1, i, Q, j, e, hS => by
    obtain ⟨h1, h2, h3, h4, h5, h6, h7⟩ := hS
    have niQ : Q.testBit (od i) = false := by
      cases z : Q.testBit (od i) with
      | false => rfl
      | true =>
        obtain ⟨p, hp, e2⟩ := h3 _ z
        have := od_inj h (by omega) (by omega) e2
        omega
    have Qb : ∀ p, p < n → (Q ||| 2 ^ od i).testBit (od p) = (Q.testBit (od p) || decide (p = i)) := fun p hp => by
      rw [Nat.testBit_or, Nat.testBit_two_pow]
      congr 1
      exact decide_eq_decide.mpr ⟨fun z => (od_inj h (by omega) hp z).symm, fun z => by rw [z]⟩
    have w1 : WyS bar n od Q (i + 1) j := by
      refine ⟨by omega, by omega, fun b z => ?_, h4, h5, fun r r1 r2 => ?_, fun p q pq qi => ?_⟩
      · obtain ⟨p, hp, e2⟩ := h3 b z
        exact ⟨p, by omega, e2⟩
      · by_cases z : r = i
        · rw [z]; exact niQ
        · exact h6 r r1 (by omega)
      · by_cases z : q = i
        · intro _ z2
          rw [z, niQ] at z2
          exact absurd z2 (by decide)
        · exact h7 p q pq (by omega)
    show SmL _ (olL od k (i + 1)) Q + SmL _ (olL od k (i + 1)) (Q ||| 2 ^ od i) = wyD bar n k (i + 1) j + cond (bar j i) 0 (wyD bar n k (i + 1) i)
    rw [wy_sum h k (i + 1) Q j (by omega) w1]
    congr 1
    cases hb : bar j i with
    | false =>
      refine wy_sum h k (i + 1) _ i (by omega) ⟨by omega, by omega, fun b z => ?_, ?_, ?_, fun r r1 r2 => by omega, fun p q pq qi pp pq2 nr => ?_⟩
      · rw [Nat.testBit_or, Nat.testBit_two_pow, Bool.or_eq_true] at z
        rcases z with z | z
        · obtain ⟨p, hp, e2⟩ := h3 b z
          exact ⟨p, by omega, e2⟩
        · exact ⟨i, by omega, (of_decide_eq_true z).symm⟩
      · rw [Nat.testBit_or, h4]; rfl
      · rw [Nat.testBit_or, Nat.testBit_two_pow, decide_eq_true rfl, Bool.or_true]
      · have nr' : ∀ r, p < r → r < q → Q.testBit (od r) = false := fun r r1 r2 => by
          have := nr r r1 r2
          rw [Qb r (by omega), Bool.or_eq_false_iff] at this
          exact this.1
        rw [Qb p (by omega), decide_eq_false (by omega), Bool.or_false] at pp
        by_cases z : q = i
        · have pj : p = j := by
            rcases Nat.lt_trichotomy p j with l | l | l
            · have := nr' j l (by omega)
              rw [h5] at this
              exact absurd this (by decide)
            · exact l
            · have := h6 p l (by omega)
              rw [pp] at this
              exact absurd this (by decide)
          rw [pj, z]; exact hb
        · rw [Qb q (by omega), decide_eq_false z, Bool.or_false] at pq2
          exact h7 p q pq (by omega) pp pq2 nr'
    | true =>
      refine SmL_0 _ _ (fun S s1 s2 => ?_)
      show cond (cdec (WyG bar n od S)) 1 0 = 0
      rw [cdec_f (fun z => ?_)]
      · rfl
      · have sj : S.testBit (od j) = true := s1 _ (by rw [Nat.testBit_or, h5]; rfl)
        have si : S.testBit (od i) = true := s1 _ (by rw [Nat.testBit_or, Nat.testBit_two_pow, decide_eq_true rfl, Bool.or_true])
        have := z.2.2 j i h1 (by omega) sj si (fun r r1 r2 => ?_)
        · rw [hb] at this; exact absurd this (by decide)
        · cases y : S.testBit (od r) with
          | false => rfl
          | true =>
            rcases s2 _ y with y2 | y2
            · rw [Qb r (by omega), h6 r r1 r2, decide_eq_false (by omega)] at y2
              exact absurd y2 (by decide)
            · obtain ⟨p, p1, p2, p3⟩ := (olL_mem od _ k (i + 1)).mp y2
              have := od_inj h (by omega) (by omega) p3
              omega
theorem wy_all (h : Ord X Y n od) (hn : 2 ≤ n) : sumR (fun S => cond (cdec (WyG bar n od S)) 1 0) (2 ^ n) = wyD bar n (n - 1) 1 0 := by
  have e1 : sumR (fun S => cond (cdec (WyG bar n od S)) 1 0) (2 ^ n) = sumR (fun S => (fun S => cond (cdec (WyG bar n od S)) 1 0) (S ||| 0)) (2 ^ n) := sumR_ex _ (fun S _ => by rw [Nat.or_zero])
  have pm : (rlL n).Perm (olL od n 0) := by
    refine perm_nd (rlL n) (olL od n 0) (rlL_nd n) (olL_nd h n 0 (by omega)) (fun x => ?_)
    rw [rlL_mem, olL_mem]
    constructor
    · intro hx
      obtain ⟨p, hp, e⟩ := inj_surj n od (fun k hk => (h k hk).1) (fun i j hi hj => od_inj h hi hj) x hx
      exact ⟨p, by omega, by omega, e.symm⟩
    · intro ⟨p, _, hp, e⟩
      rw [e]; exact (h p (by omega)).1
  refine e1.trans ((sum_SmL (fun S => cond (cdec (WyG bar n od S)) 1 0) n 0).trans ?_)
  rw [SmL_perm _ pm]
  obtain ⟨m, em⟩ : ∃ m, n = m + 1 := ⟨n - 1, by omega⟩
  subst em
  have A : SmL (fun S => cond (cdec (WyG bar (m + 1) od S)) 1 0) (olL od m 1) 0 = 0 := by
    refine SmL_0 _ 0 (fun S s1 s2 => ?_)
    show cond (cdec (WyG bar (m + 1) od S)) 1 0 = 0
    have nz : ¬ WyG bar (m + 1) od S := fun z => by
      rcases s2 _ z.1 with y | y
      · rw [Nat.zero_testBit] at y; exact absurd y (by decide)
      · obtain ⟨p, p1, p2, p3⟩ := (olL_mem od _ m 1).mp y
        have := od_inj h (by omega) (by omega) p3
        omega
    rw [cdec_f nz]; rfl
  have B : WyS bar (m + 1) od (0 ||| 2 ^ od 0) 1 0 := by
    have t0 : (0 ||| 2 ^ od 0).testBit (od 0) = true := by rw [Nat.zero_or, Nat.testBit_two_pow, decide_eq_true rfl]
    refine ⟨by omega, by omega, fun b z => ?_, t0, t0, fun r r1 r2 => by omega, fun p q pq q1 => by omega⟩
    rw [Nat.zero_or, Nat.testBit_two_pow] at z
    exact ⟨0, by omega, (of_decide_eq_true z).symm⟩
  show SmL _ (olL od m 1) 0 + SmL _ (olL od m 1) (0 ||| 2 ^ od 0) = wyD bar (m + 1) m 1 0
  rw [A, Nat.zero_add, wy_sum h m 1 _ 0 (by omega) B]
end
