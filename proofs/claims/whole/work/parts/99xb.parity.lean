/-! Polygons among points: parity. -/
theorem xorR_xor (f g : Nat → Bool) : ∀ n, xorR (fun i => f i ^^ g i) n = (xorR f n ^^ xorR g n)
  | 0 => rfl
  | n + 1 => by
    show (xorR (fun i => f i ^^ g i) n ^^ (f n ^^ g n)) = ((xorR f n ^^ f n) ^^ (xorR g n ^^ g n))
    rw [xorR_xor f g n]
    cases xorR f n <;> cases xorR g n <;> cases f n <;> cases g n <;> rfl
theorem xorR_z {f : Nat → Bool} : ∀ n, (∀ i, i < n → f i = false) → xorR f n = false
  | 0, _ => rfl
  | n + 1, h => by
    show (xorR f n ^^ f n) = false
    rw [xorR_z n (fun i hi => h i (by omega)), h n (by omega)]; rfl
theorem xorR_1 {f : Nat → Bool} {a : Nat} : ∀ n, a < n → (∀ i, i < n → i ≠ a → f i = false) → xorR f n = f a
  | 0, h, _ => by omega
  | n + 1, h, k => by
    show (xorR f n ^^ f n) = f a
    by_cases e : n = a
    · rw [xorR_z n (fun i hi => k i (by omega) (by omega)), e]; cases f a <;> rfl
    · rw [xorR_1 n (by omega) (fun i hi => k i (by omega)), k n (by omega) e]; cases f a <;> rfl
theorem xorR_2 {f : Nat → Bool} {a b : Nat} (n : Nat) (ha : a < n) (hb : b < n) (ne : a ≠ b) (k : ∀ i, i < n → i ≠ a → i ≠ b → f i = false) : xorR f n = (f a ^^ f b) := by
  have e : xorR f n = xorR (fun i => cond (i == a) (f i) false ^^ cond (i == a) false (f i)) n := xorR_eq n (fun i _ => by cases i == a <;> cases f i <;> rfl)
  rw [e, xorR_xor, xorR_1 (a := a) n ha (fun i _ h => by rw [beq_eq_false_iff_ne.mpr h]; rfl), xorR_1 (a := b) n hb (fun i hi h => ?_)]
  · show (cond (a == a) (f a) false ^^ cond (b == a) false (f b)) = _
    rw [beq_self_eq_true, beq_eq_false_iff_ne.mpr ne.symm]; rfl
  · by_cases z : i = a
    · rw [z, beq_self_eq_true]; rfl
    · rw [beq_eq_false_iff_ne.mpr z]; exact k i hi z h
def pgS (S : Nat → Bool) (nx : Nat → Nat) (m : Nat) (h : Nat → Nat → Bool) : Bool := xorR (fun p => S p && h p (nx p)) m
/-- a polygon on points below m -/
def PG (o : Nat → Nat → Nat → Bool) (m : Nat) (S : Nat → Bool) (nx pv : Nat → Nat) : Prop :=
  (∀ p, S p = true → p < m ∧ S (nx p) = true ∧ S (pv p) = true ∧ nx (pv p) = p ∧ pv (nx p) = p ∧ nx p ≠ p ∧ nx p ≠ pv p) ∧
  (∀ F : Nat → Bool, pgS S nx m (fun p q => F p ^^ F q) = false) ∧
  (∀ p q, S p = true → S q = true → crs o p (nx p) q (nx q) = false) ∧
  ∃ r, S r = true ∧ ∀ Z : Nat → Prop, Z r → (∀ p, S p = true → Z p → Z (nx p)) → ∀ q, S q = true → Z q
theorem pgS_x (S : Nat → Bool) (nx : Nat → Nat) (m : Nat) (h k : Nat → Nat → Bool) : pgS S nx m (fun p q => h p q ^^ k p q) = (pgS S nx m h ^^ pgS S nx m k) := by
  unfold pgS
  rw [← xorR_xor]
  exact xorR_eq m (fun p _ => by cases S p <;> rfl)
theorem pgS_eq {S : Nat → Bool} {nx : Nat → Nat} {m : Nat} {h k : Nat → Nat → Bool} (e : ∀ p, S p = true → h p (nx p) = k p (nx p)) : pgS S nx m h = pgS S nx m k := by
  refine xorR_eq m (fun p _ => ?_)
  cases q : S p with
  | false => rfl
  | true => show h p (nx p) = k p (nx p); exact e p q
theorem pgS_0 {S : Nat → Bool} {nx : Nat → Nat} {m : Nat} {h : Nat → Nat → Bool} (e : ∀ p, S p = true → h p (nx p) = false) : pgS S nx m h = false := by
  refine xorR_z m (fun p _ => ?_)
  cases q : S p with
  | false => rfl
  | true => show h p (nx p) = false; exact e p q
def pL (o : Nat → Nat → Nat → Bool) (x b a p q : Nat) : Bool := cond (p == b) (cond (q == a) false (cone o b a x q)) (cond (q == b) (cond (p == a) false (cone o b a x p)) false)
theorem wit_1 {o : Nat → Nat → Nat → Bool} (a b c : Nat) : wit o a a b c = false := by unfold wit; simp
theorem wit_2 {o : Nat → Nat → Nat → Bool} (a b c : Nat) : wit o b a b c = false := by unfold wit; simp
section
variable {P : Nat → Prop} {o : Nat → Nat → Nat → Bool}
theorem pg_loc (C : CC P o) {a b x p q : Nat} (pa : P a) (pb : P b) (px : P x) (pp : P p) (pq : P q) (nab : a ≠ b) (nax : a ≠ x) (nbx : b ≠ x) (npx : p ≠ x) (nqx : q ≠ x) (npq : p ≠ q) : (crs o a b p q ^^ (crs o a x p q ^^ crs o b x p q)) = ((wit o p a b x ^^ wit o q a b x) ^^ (pL o x b a p q ^^ pL o x a b p q)) := by
  unfold pL
  by_cases e1 : p = a
  · subst e1
    rw [crs_p1, crs_p1, wit_1, beq_self_eq_true, beq_eq_false_iff_ne.mpr nab]
    by_cases e2 : q = b
    · subst e2
      rw [crs_p3, wit_2, beq_self_eq_true]; rfl
    · rw [beq_eq_false_iff_ne.mpr e2, pg_tri4 C pb pp px pq nab.symm nbx (Ne.symm e2) nax npq nqx.symm, wit_sw C pq pp pb px nab nax nbx]
      cases cone o p b x q <;> cases wit o q p b x <;> rfl
  · by_cases e2 : p = b
    · subst e2
      rw [crs_p2, crs_p1, wit_2, beq_self_eq_true, beq_eq_false_iff_ne.mpr e1]
      by_cases e3 : q = a
      · subst e3
        rw [crs_p3, wit_1, beq_self_eq_true]; rfl
      · rw [beq_eq_false_iff_ne.mpr e3, pg_tri4 C pa pp px pq nab nax (Ne.symm e3) nbx npq nqx.symm]
        cases cone o p a x q <;> cases wit o q a p x <;> rfl
    · rw [beq_eq_false_iff_ne.mpr e1, beq_eq_false_iff_ne.mpr e2]
      by_cases e3 : q = a
      · subst e3
        rw [crs_p3, crs_p3, wit_1, beq_self_eq_true, beq_eq_false_iff_ne.mpr nab, crs_r C pb px pq pp npq.symm, pg_tri4 C pb pq px pp nab.symm nbx (Ne.symm e2) nax npq.symm npx.symm, wit_sw C pp pq pb px nab nax nbx]
        cases cone o q b x p <;> cases wit o p q b x <;> rfl
      · by_cases e4 : q = b
        · subst e4
          rw [crs_p4, crs_p3, wit_2, beq_self_eq_true, beq_eq_false_iff_ne.mpr e3, crs_r C pa px pq pp npq.symm, pg_tri4 C pa pq px pp nab nax (Ne.symm e1) nbx npq.symm npx.symm]
          cases cone o q a x p <;> cases wit o p a q x <;> rfl
        · rw [beq_eq_false_iff_ne.mpr e3, beq_eq_false_iff_ne.mpr e4, pg_tri5 C pa pb px pp pq nab nax (Ne.symm e1) (Ne.symm e3) nbx (Ne.symm e2) (Ne.symm e4) npx.symm nqx.symm npq]
          cases wit o p a b x <;> cases wit o q a b x <;> rfl
variable {m : Nat} {S : Nat → Bool} {nx pv : Nat → Nat} {x : Nat}
def pX (o : Nat → Nat → Nat → Bool) (S : Nat → Bool) (nx : Nat → Nat) (m a b : Nat) : Bool := pgS S nx m (fun p q => crs o a b p q)
def pK (o : Nat → Nat → Nat → Bool) (S : Nat → Bool) (nx pv : Nat → Nat) (m x b : Nat) : Bool := pX o S nx m b x ^^ linL o b (pv b) (nx b) x
def PGx (P : Nat → Prop) (o : Nat → Nat → Nat → Bool) (m : Nat) (S : Nat → Bool) (nx pv : Nat → Nat) (x : Nat) : Prop := CC P o ∧ (∀ p, S p = true → P p ∧ p ≠ x) ∧ P x ∧ PG o m S nx pv
theorem pg_main (H : PGx P o m S nx pv x) {a b : Nat} (pa : P a) (pb : P b) (nab : a ≠ b) (nax : a ≠ x) (nbx : b ≠ x) : (pX o S nx m a b ^^ (pX o S nx m a x ^^ pX o S nx m b x)) = (pgS S nx m (pL o x b a) ^^ pgS S nx m (pL o x a b)) := by
  obtain ⟨C, hP, px, G⟩ := H
  unfold pX
  rw [← pgS_x, ← pgS_x, pgS_eq (k := fun p q => (wit o p a b x ^^ wit o q a b x) ^^ (pL o x b a p q ^^ pL o x a b p q)) (fun p hp => ?_), pgS_x, G.2.1 (fun p => wit o p a b x), Bool.false_xor, pgS_x]
  have g := G.1 p hp
  exact pg_loc C pa pb px (hP p hp).1 (hP _ g.2.1).1 nab nax nbx (hP p hp).2 (hP _ g.2.1).2 g.2.2.2.2.2.1.symm
theorem pg_l0 (H : PGx P o m S nx pv x) {a b : Nat} (hb : S b = false) : pgS S nx m (pL o x b a) = false := pgS_0 (fun p hp => by
  have g := H.2.2.2.1 p hp
  unfold pL
  rw [beq_eq_false_iff_ne.mpr (fun e => by rw [e, hb] at hp; cases hp), beq_eq_false_iff_ne.mpr (show nx p ≠ b from fun e => by have := g.2.1; rw [e, hb] at this; cases this)]; rfl)
theorem pg_ne (H : PGx P o m S nx pv x) {b : Nat} (hb : S b = true) : pv b ≠ b := fun e => by
  have g := H.2.2.2.1 b hb
  exact g.2.2.2.2.2.1 (by have := g.2.2.2.1; rw [e] at this; exact this)
theorem pg_l1 (H : PGx P o m S nx pv x) {a b : Nat} (hb : S b = true) : pgS S nx m (pL o x b a) = (cond (nx b == a) false (cone o b a x (nx b)) ^^ cond (pv b == a) false (cone o b a x (pv b))) := by
  have g := H.2.2.2.1 b hb
  have ne := pg_ne H hb
  have gu := H.2.2.2.1 _ g.2.2.1
  unfold pgS
  rw [xorR_2 (a := b) (b := pv b) m g.1 gu.1 ne.symm (fun p _ n1 n2 => ?_), hb, g.2.2.1, g.2.2.2.1]
  · unfold pL
    rw [beq_self_eq_true, beq_eq_false_iff_ne.mpr ne]; rfl
  · cases hp : S p with
    | false => rfl
    | true =>
      unfold pL
      rw [beq_eq_false_iff_ne.mpr n1, beq_eq_false_iff_ne.mpr (show nx p ≠ b from fun e => n2 (by have := (H.2.2.2.1 p hp).2.2.2.2.1; rw [e] at this; exact this.symm))]; rfl
theorem pg_lf (H : PGx P o m S nx pv x) {a b : Nat} (pa : P a) (nax : a ≠ x) (nab : a ≠ b) (hb : S b = true) (n1 : nx b ≠ a) (n2 : pv b ≠ a) : pgS S nx m (pL o x b a) = (linL o b (pv b) (nx b) x ^^ linL o b (pv b) (nx b) a) := by
  have g := H.2.2.2.1 b hb
  have ne := pg_ne H hb
  have hu := H.2.1 _ g.2.2.1
  have hv := H.2.1 _ g.2.1
  have h0 := H.2.1 _ hb
  rw [pg_l1 H hb, beq_eq_false_iff_ne.mpr n1, beq_eq_false_iff_ne.mpr n2]
  show (cone o b a x (nx b) ^^ cone o b a x (pv b)) = _
  rw [Bool.xor_comm, pg_st5 H.1 h0.1 pa H.2.2.1 hu.1 hv.1 nab.symm h0.2 ne.symm g.2.2.2.2.2.1.symm nax n2.symm n1.symm hu.2.symm hv.2.symm g.2.2.2.2.2.2.symm]
theorem pg_k1 (H : PGx P o m S nx pv x) {b : Nat} (hb : S b = true) : pK o S nx pv m x b = pK o S nx pv m x (nx b) := by
  have g := H.2.2.2.1 b hb
  have ne := pg_ne H hb
  have hu := H.2.1 _ g.2.2.1
  have hv := H.2.1 _ g.2.1
  have h0 := H.2.1 _ hb
  have ga := H.2.2.2.1 _ g.2.1
  have hw := H.2.1 _ ga.2.1
  have nv := g.2.2.2.2.2.1
  have key := pg_main H hv.1 h0.1 nv hv.2 h0.2
  have x0 : pX o S nx m (nx b) b = false := pgS_0 (fun p hp => by
    have gp := H.2.2.2.1 p hp
    show crs o (nx b) b p (nx p) = false
    rw [crs_l H.1 h0.1 hv.1 (H.2.1 p hp).1 (H.2.1 _ gp.2.1).1 nv.symm]
    exact H.2.2.2.2.2.1 b p hb hp)
  have e1 : pv (nx b) = b := g.2.2.2.2.1
  have nw : nx (nx b) ≠ b := fun e => ga.2.2.2.2.2.2 (by rw [e, e1])
  rw [x0, pg_l1 H hb, pg_l1 H g.2.1, e1, beq_self_eq_true, beq_self_eq_true, beq_eq_false_iff_ne.mpr g.2.2.2.2.2.2.symm, beq_eq_false_iff_ne.mpr nw] at key
  have k1 := pg_st4 H.1 h0.1 hv.1 H.2.2.1 hu.1 nv.symm h0.2 ne.symm hv.2 g.2.2.2.2.2.2 hu.2.symm
  have k2 := pg_st4b H.1 hv.1 h0.1 H.2.2.1 hw.1 nv hv.2 ga.2.2.2.2.2.1.symm h0.2 nw.symm hw.2.symm
  have key2 : (pX o S nx m (nx b) x ^^ pX o S nx m b x) = (cone o b (nx b) x (pv b) ^^ cone o (nx b) b x (nx (nx b))) := by
    revert key
    show (false ^^ (pX o S nx m (nx b) x ^^ pX o S nx m b x)) = ((false ^^ cone o b (nx b) x (pv b)) ^^ (cone o (nx b) b x (nx (nx b)) ^^ false)) → _
    intro key
    rw [Bool.false_xor, Bool.false_xor, Bool.xor_false] at key
    exact key
  rw [k1, k2] at key2
  unfold pK
  rw [e1]
  revert key2
  cases pX o S nx m (nx b) x <;> cases pX o S nx m b x <;> cases linL o b (pv b) (nx b) x <;> cases linL o (nx b) b (nx (nx b)) x <;> cases o b (nx b) x <;> decide
theorem pg_kc (H : PGx P o m S nx pv x) {b c : Nat} (hb : S b = true) (hc : S c = true) : pK o S nx pv m x b = pK o S nx pv m x c := by
  obtain ⟨r, hr, cn⟩ := H.2.2.2.2.2.2
  have z : ∀ q, S q = true → pK o S nx pv m x q = pK o S nx pv m x r := cn (fun q => pK o S nx pv m x q = pK o S nx pv m x r) rfl (fun p hp e => (pg_k1 H hp).symm.trans e)
  exact (z b hb).trans (z c hc).symm
theorem pg_x2 (H : PGx P o m S nx pv x) {a b : Nat} (ha : S a = true) (hb : S b = true) (nab : a ≠ b) (n1 : nx a ≠ b) (n2 : nx b ≠ a) : pX o S nx m a b = (linL o b (pv b) (nx b) a ^^ linL o a (pv a) (nx a) b) := by
  have h1 := H.2.1 a ha
  have h2 := H.2.1 b hb
  have g1 := H.2.2.2.1 a ha
  have g2 := H.2.2.2.1 b hb
  have key := pg_main H h1.1 h2.1 nab h1.2 h2.2
  have kc := pg_kc H ha hb
  rw [pg_lf H h1.1 h1.2 nab hb n2 (fun e => n1 (by rw [← e]; exact g2.2.2.2.1)), pg_lf H h2.1 h2.2 nab.symm ha n1 (fun e => n2 (by rw [← e]; exact g1.2.2.2.1))] at key
  unfold pK at kc
  revert key kc
  cases pX o S nx m a b <;> cases pX o S nx m a x <;> cases pX o S nx m b x <;> cases linL o b (pv b) (nx b) x <;> cases linL o b (pv b) (nx b) a <;> cases linL o a (pv a) (nx a) x <;> cases linL o a (pv a) (nx a) b <;> decide
theorem pg_x3 (H : PGx P o m S nx pv x) {a b : Nat} (pa : P a) (nax : a ≠ x) (ha : S a = false) (hb : S b = true) : pX o S nx m a b = (pK o S nx pv m x b ^^ (linL o b (pv b) (nx b) a ^^ pX o S nx m a x)) := by
  have h2 := H.2.1 b hb
  have g2 := H.2.2.2.1 b hb
  have nab : a ≠ b := fun e => by rw [e, hb] at ha; cases ha
  have key := pg_main H pa h2.1 nab nax h2.2
  rw [pg_lf H pa nax nab hb (fun e => by rw [← e, g2.2.1] at ha; cases ha) (fun e => by rw [← e, g2.2.2.1] at ha; cases ha), pg_l0 H ha] at key
  unfold pK
  revert key
  cases pX o S nx m a b <;> cases pX o S nx m a x <;> cases pX o S nx m b x <;> cases linL o b (pv b) (nx b) x <;> cases linL o b (pv b) (nx b) a <;> decide
end
