/-! Polygons: the sign of the area tells the way round. -/
def ar2 (X Y : Nat → Int) (a b : Nat) : Int := X a * Y b - X b * Y a
def arT (X Y : Nat → Int) : Nat → Int
  | 0 => 0
  | n + 1 => arT X Y n + ar2 X Y n (n + 1)
def arA (X Y : Nat → Int) (i j : Nat) : Int := arT X Y j - arT X Y i + ar2 X Y j i
def sumZ (f : Nat → Int) : Nat → Int
  | 0 => 0
  | n + 1 => sumZ f n + f n
/-- the sides of the polygon -/
def sdP (m a b : Nat) : Prop := ∃ p, p < m ∧ ((a = p ∧ b = nQ 0 (m - 1) p) ∨ (a = nQ 0 (m - 1) p ∧ b = p))
theorem crs_4 {P : Nat → Prop} {o : Nat → Nat → Nat → Bool} (C : CC P o) {a b c d a' b' c' d' : Nat} (pa : P a) (pb : P b) (pc : P c) (pd : P d) (nab : a ≠ b) (ncd : c ≠ d) (h : crs o a b c d = false) (e1 : (a' = a ∧ b' = b) ∨ (a' = b ∧ b' = a)) (e2 : (c' = c ∧ d' = d) ∨ (c' = d ∧ d' = c)) : crs o a' b' c' d' = false := by
  rcases e1 with ⟨q1, q2⟩ | ⟨q1, q2⟩ <;> rcases e2 with ⟨q3, q4⟩ | ⟨q3, q4⟩ <;> rw [q1, q2, q3, q4]
  · exact h
  · rw [crs_r C pa pb pc pd ncd]; exact h
  · rw [crs_l C pa pb pc pd nab]; exact h
  · rw [crs_l C pa pb pd pc nab, crs_r C pa pb pc pd ncd]; exact h
theorem pre_sd {P : Nat → Prop} {o : Nat → Nat → Nat → Bool} {m : Nat} (h : Plg P o m) : Pre o (List.range m) (sdP m) := by
  obtain ⟨C, hP, h3, hS⟩ := h
  refine ⟨fun a b hab => ?_, fun a b c d hab hcd => ?_⟩
  · obtain ⟨p, hp, e⟩ := hab
    have k := vQ_lt (p := p) h3 hp
    have nl := nQ_lt (p := p) h3 hp
    rcases e with ⟨e1, e2⟩ | ⟨e1, e2⟩
    · rw [e1, e2]
      exact ⟨List.mem_range.mpr hp, List.mem_range.mpr nl, k.2.2.2.2.symm, p, hp, Or.inr ⟨rfl, rfl⟩⟩
    · rw [e1, e2]
      exact ⟨List.mem_range.mpr nl, List.mem_range.mpr hp, k.2.2.2.2, p, hp, Or.inl ⟨rfl, rfl⟩⟩
  · obtain ⟨p, hp, e⟩ := hab
    obtain ⟨q, hq, e'⟩ := hcd
    have kp := vQ_lt (p := p) h3 hp
    have np := nQ_lt (p := p) h3 hp
    have kq := vQ_lt (p := q) h3 hq
    have nq := nQ_lt (p := q) h3 hq
    exact crs_4 C (hP p (by omega)) (hP _ (by omega)) (hP q (by omega)) (hP _ (by omega)) kp.2.2.2.2.symm kq.2.2.2.2.symm (hS p q hp hq) e e'
section
variable {X Y : Nat → Int} {m : Nat}
theorem pq_net (h : PQ X Y m) {M : Nat → Nat → Prop} (hM : Pre (oXY (eX X m) (eY Y m)) (List.range m) M) : ∃ N, Net (oXY (eX X m) (eY Y m)) (List.range m) N ∧ FP (oXY (eX X m) (eY Y m)) (List.range m) N ∧ ∀ a b, M a b → N a b := by
  have hp := pq_plg h
  obtain ⟨h9, hN, hG, hd, hs⟩ := h
  obtain ⟨N, n1, n2⟩ := net_ex hp.1 (fun x hx => show x ≤ m from by have := List.mem_range.mp hx; omega) hM
  refine ⟨N, n1, (geo_main (X := eX X m) (Y := eY Y m) (n := m) (fun a b c ha hb hc k1 k2 k3 => ?_) (fun a b ha hb k => ?_)).1 N n1, n2⟩
  · rw [e_ccc ha hb hc]
    have := hG a b c ha hb hc k1 k2 k3
    omega
  · rw [eX_c ha, eX_c hb, eY_c ha, eY_c hb]
    have := hd a b ha hb k
    omega
theorem arA_1 (i : Nat) : arA X Y i (i + 1) = 0 := by
  unfold arA
  show (arT X Y i + ar2 X Y i (i + 1)) - arT X Y i + ar2 X Y (i + 1) i = 0
  unfold ar2
  omega
theorem arA_s (i w j : Nat) : arA X Y i j = arA X Y i w + arA X Y w j + dt X Y j i w := by
  unfold arA ar2 dt
  grind
theorem ar_pos (G : GPl (fun x => x ≤ m) (oXY (eX X m) (eY Y m)) m) {N : Nat → Nat → Prop} (net : Net (oXY (eX X m) (eY Y m)) (List.range m) N) (fp : FP (oXY (eX X m) (eY Y m)) (List.range m) N) (sd : ∀ p, p < m → N p (nQ 0 (m - 1) p)) : ∀ d i j, j ≤ i + d → i < j → j < m → (j = i + 1 ∨ ((i = 0 ∧ j = m - 1) ∨ Jd (oXY (eX X m) (eY Y m)) m i j)) → N j i → 0 ≤ arA X Y i j ∧ (i + 2 ≤ j → 0 < arA X Y i j)
  | 0, i, j, h1, h2, _, _, _ => by omega
  | d + 1, i, j, h1, h2, hj, hJ, hN => by
    by_cases e : j = i + 1
    · rw [e, arA_1]
      exact ⟨by omega, fun z => by omega⟩
    · have hJ' : (i = 0 ∧ j = m - 1) ∨ Jd (oXY (eX X m) (eY Y m)) m i j := by
        rcases hJ with z | z
        · exact (e z).elim
        · exact z
      obtain ⟨w, w1, w2, ow, Niw, Nwj, J1, J2⟩ := apex G net fp sd (by omega) hj hJ' hN
      have a1 := ar_pos G net fp sd d i w (by omega) w1 (by omega) (J1.imp id Or.inr) (net.1 _ _ Niw).2.2.2
      have a2 := ar_pos G net fp sd d w j (by omega) w2 hj (J2.imp id Or.inr) (net.1 _ _ Nwj).2.2.2
      rw [o_ccc hj (by omega) (by omega)] at ow
      have od := of_decide_eq_true ow
      rw [arA_s i w j]
      exact ⟨by omega, fun _ => by omega⟩
theorem area_pos (h : PQ X Y m) (G : GPl (fun x => x ≤ m) (oXY (eX X m) (eY Y m)) m) : 0 < arA X Y 0 (m - 1) := by
  have h3 := h.1.1
  obtain ⟨N, n1, n2, n3⟩ := pq_net h (pre_sd (pq_plg h))
  have sd : ∀ p, p < m → N p (nQ 0 (m - 1) p) := fun p hp => n3 _ _ ⟨p, hp, Or.inl ⟨rfl, rfl⟩⟩
  have s0 := sd (m - 1) (by omega)
  rw [nQ_j] at s0
  exact (ar_pos G n1 n2 sd m 0 (m - 1) (by omega) (by omega) (by omega) (Or.inr (Or.inl ⟨rfl, rfl⟩)) s0).2 (by omega)
theorem arT_rev : ∀ k, k ≤ m - 1 → arT (fun p => X (m - 1 - p)) (fun p => Y (m - 1 - p)) k = arT X Y (m - 1 - k) - arT X Y (m - 1)
  | 0, _ => by show (0 : Int) = _; rw [Nat.sub_zero]; omega
  | k + 1, hk => by
    show arT (fun p => X (m - 1 - p)) (fun p => Y (m - 1 - p)) k + ar2 X Y (m - 1 - k) (m - 1 - (k + 1)) = _
    rw [arT_rev k (by omega)]
    obtain ⟨t, et⟩ : ∃ t, t = m - 1 - (k + 1) := ⟨_, rfl⟩
    have e2 : m - 1 - k = t + 1 := by omega
    rw [← et, e2]
    show arT X Y t + ar2 X Y t (t + 1) - arT X Y (m - 1) + ar2 X Y (t + 1) t = _
    unfold ar2
    omega
theorem area_rev (h3 : 3 ≤ m) : arA (fun p => X (m - 1 - p)) (fun p => Y (m - 1 - p)) 0 (m - 1) = - arA X Y 0 (m - 1) := by
  unfold arA
  rw [arT_rev (m - 1) (Nat.le_refl _)]
  show arT X Y (m - 1 - (m - 1)) - arT X Y (m - 1) - 0 + ar2 X Y (m - 1 - (m - 1)) (m - 1 - 0) = -(arT X Y (m - 1) - 0 + ar2 X Y (m - 1) 0)
  rw [Nat.sub_self, Nat.sub_zero]
  show (0 : Int) - arT X Y (m - 1) - 0 + ar2 X Y 0 (m - 1) = _
  unfold ar2
  omega
theorem sum_arT (f : Nat → Int) : ∀ k, (∀ i, i < k → f i = ar2 X Y i (i + 1)) → sumZ f k = arT X Y k
  | 0, _ => rfl
  | k + 1, hf => by
    show sumZ f k + f k = arT X Y k + ar2 X Y k (k + 1)
    rw [sum_arT f k (fun i hi => hf i (by omega)), hf k (by omega)]
theorem sum_area (h3 : 3 ≤ m) : sumZ (fun i => ar2 X Y i (nxC m i)) m = arA X Y 0 (m - 1) := by
  obtain ⟨t, et⟩ : ∃ t, m = t + 1 := ⟨m - 1, by omega⟩
  rw [et]
  show sumZ (fun i => ar2 X Y i (nxC (t + 1) i)) t + ar2 X Y t (nxC (t + 1) t) = _
  rw [sum_arT _ t (fun i hi => by show ar2 X Y i (nxC (t + 1) i) = _; unfold nxC; rw [if_pos (by omega)]), show nxC (t + 1) t = 0 from by unfold nxC; rw [if_neg (by omega)]]
  unfold arA
  show arT X Y t + ar2 X Y t 0 = arT X Y (t + 1 - 1) - 0 + ar2 X Y (t + 1 - 1) 0
  rw [show t + 1 - 1 = t from rfl]
  omega
theorem itr_cI (f : Nat → Int) (h : Nat → Int32 → Int32) (hh : ∀ i v, h i (cI v) = cI (v + f i)) : ∀ k i, itr h k i (cI (sumZ f i)) = cI (sumZ f (i + k))
  | 0, i => rfl
  | k + 1, i => by
    show itr h k (i + 1) (h i (cI (sumZ f i))) = _
    rw [hh, show sumZ f i + f i = sumZ f (i + 1) from rfl, itr_cI f h hh k (i + 1), show i + 1 + k = i + (k + 1) from by omega]
theorem arS_cI (c : Nat → Nat) : arS X Y c m = cI (sumZ (fun i => ar2 (fun j => X (c j)) (fun j => Y (c j)) i (nxC m i)) m) := by
  unfold arS
  have k := itr_cI (fun i => ar2 (fun j => X (c j)) (fun j => Y (c j)) i (nxC m i)) (fun i s => s + (cI (X (c i)) * cI (Y (c (nxC m i))) - cI (X (c (nxC m i))) * cI (Y (c i)))) (fun i v => by
    show cI v + (cI (X (c i)) * cI (Y (c (nxC m i))) - cI (X (c (nxC m i))) * cI (Y (c i))) = _
    rw [cI_mul, cI_mul, cI_sub, cI_add]; rfl) m 0
  rw [Nat.zero_add] at k
  exact k
theorem sum_bd {f : Nat → Int} {B : Nat} : ∀ k, (∀ i, i < k → (f i).natAbs ≤ B) → (sumZ f k).natAbs ≤ B * k
  | 0, _ => by show (0 : Int).natAbs ≤ _; rw [Int.natAbs_zero]; omega
  | k + 1, h => by
    have a := sum_bd k (fun i hi => h i (by omega))
    have b := h k (by omega)
    show (sumZ f k + f k).natAbs ≤ _
    rw [Nat.mul_add]
    omega
theorem ar2_bd (hN : Near X Y m) {a b : Nat} (ha : a < m) (hb : b < m) : (ar2 X Y a b).natAbs ≤ 19602 := by
  have k1 := hN a ha
  have k2 := hN b hb
  have b1 := mulB (x := X a) (y := Y b) (h := 99) (k := 99) (by omega) (by omega)
  have b2 := mulB (x := X b) (y := Y a) (h := 99) (k := 99) (by omega) (by omega)
  unfold ar2
  omega
end
section
variable {X Y : Nat → Int} {n m : Nat} {c : Nat → Nat}
theorem pq_cor (hN : Near X Y n) (hG : GP X Y n) (hd : Dist X Y n) (hn : n ≤ 9) (hc : Cor n m c) (hs : SOK X Y m c) : PQ (fun j => X (c j)) (fun j => Y (c j)) m := by
  have c1 := hc.1
  refine ⟨⟨hc.1.1, by omega⟩, fun p hp => hN _ (hc.2.1 p hp), fun a b d ha hb hd' n1 n2 n3 => ?_, fun a b ha hb k => hd _ _ (hc.2.1 a ha) (hc.2.1 b hb) (fun e => k (hc.2.2 a b ha hb e)), fun p q hp hq => ?_⟩
  · show dt X Y (c a) (c b) (c d) ≠ 0
    exact hG _ _ _ (hc.2.1 a ha) (hc.2.1 b hb) (hc.2.1 d hd') (fun e => n1 (hc.2.2 a b ha hb e)) (fun e => n2 (hc.2.2 a d ha hd' e)) (fun e => n3 (hc.2.2 b d hb hd' e))
  · rw [crs_re (r := c) hc.2.2 hp (nQ_lt hc.1.1 hp) hq (nQ_lt hc.1.1 hq), ← nx_Q hp, ← nx_Q hq]
    exact hs p q hp hq
/-- the corners in the order that the class keeps -/
def ccN (X Y : Nat → Int) (c : Nat → Nat) (m j : Nat) : Nat := cond (decide (0 ≤ arS X Y c m)) (c j) (c (m - 1 - j))
theorem cls_G (hN : Near X Y n) (hG : GP X Y n) (hd : Dist X Y n) (hn : n ≤ 9) (hc : Cor n m c) (hs : SOK X Y m c) : PQ (fun j => X (ccN X Y c m j)) (fun j => Y (ccN X Y c m j)) m ∧ GPl (fun x => x ≤ m) (oXY (eX (fun j => X (ccN X Y c m j)) m) (eY (fun j => Y (ccN X Y c m j)) m)) m := by
  have h := pq_cor hN hG hd hn hc hs
  have h3 := h.1.1
  have h9 := h.1.2
  have sa := sum_area (X := fun j => X (c j)) (Y := fun j => Y (c j)) h3
  have bd := sum_bd (f := fun i => ar2 (fun j => X (c j)) (fun j => Y (c j)) i (nxC m i)) (B := 19602) m (fun i hi => ar2_bd h.2.1 hi (by rw [nx_Q hi]; exact nQ_lt h3 hi))
  have sg := arS_cI (X := X) (Y := Y) (m := m) c
  rw [sa] at sg bd
  have sm : Sml (arA (fun j => X (c j)) (fun j => Y (c j)) 0 (m - 1)) := by
    unfold Sml
    omega
  have s0 : Sml 0 := by unfold Sml; omega
  have sgn : decide (0 ≤ arS X Y c m) = decide (0 ≤ arA (fun j => X (c j)) (fun j => Y (c j)) 0 (m - 1)) := by
    rw [sg]
    exact decide_eq_decide.mpr (cI_le s0 sm)
  rcases gpl_or h with G | G
  · have ap := area_pos h G
    have e : ccN X Y c m = c := funext (fun j => by unfold ccN; rw [sgn, decide_eq_true (by omega)]; rfl)
    rw [e]
    exact ⟨h, G⟩
  · have ap := area_pos (pq_rev h) G
    rw [area_rev (X := fun j => X (c j)) (Y := fun j => Y (c j)) h3] at ap
    have e : ccN X Y c m = fun j => c (m - 1 - j) := funext (fun j => by unfold ccN; rw [sgn, decide_eq_false (by omega)]; rfl)
    rw [e]
    exact ⟨pq_rev h, G⟩
end
