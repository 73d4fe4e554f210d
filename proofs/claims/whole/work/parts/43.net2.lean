/-! The neighbours of an extreme point: in their order, with triangles between them. -/
def Ext (o : Nat → Nat → Nat → Bool) (p : Nat) (S : List Nat) : Prop := ∀ a b c, a ∈ S → b ∈ S → c ∈ S → a ≠ b → a ≠ c → b ≠ c → o p a b = true → o p b c = true → o p a c = true
/-- a and b are neighbours of p, b behind a, none between -/
def Nx (o : Nat → Nat → Nat → Bool) (M : Nat → Nat → Prop) (p a b : Nat) : Prop := M p a ∧ M p b ∧ a ≠ b ∧ o p a b = true ∧ ∀ c, M p c → c ≠ a → c ≠ b → o p a c = true → o p c b = true → False
section
variable {P : Nat → Prop} {o : Nat → Nat → Nat → Bool}
/-- p, the others S, a net over all -/
def PSM (P : Nat → Prop) (o : Nat → Nat → Nat → Bool) (p : Nat) (S : List Nat) (M : Nat → Nat → Prop) : Prop := CC P o ∧ (∀ x, x ∈ p :: S → P x) ∧ p ∉ S ∧ Ext o p S ∧ Net o (p :: S) M
variable {p : Nat} {S : List Nat} {M : Nat → Nat → Prop}
theorem ps_S (H : PSM P o p S M) {x : Nat} (h : M p x) : x ∈ S ∧ p ≠ x ∧ P x ∧ M x p := by
  obtain ⟨_, hx, n, s⟩ := H.2.2.2.2.1 p x h
  rcases List.mem_cons.mp hx with e | e
  · exact (n e.symm).elim
  · exact ⟨e, n, H.2.1 x hx, s⟩
theorem ps_P (H : PSM P o p S M) {x : Nat} (h : x ∈ S) : P x ∧ p ≠ x := ⟨H.2.1 x (List.mem_cons_of_mem _ h), fun e => H.2.2.1 (e ▸ h)⟩
theorem ps_p (H : PSM P o p S M) : P p := H.2.1 p List.mem_cons_self
theorem ps_tot (H : PSM P o p S M) {x y : Nat} (hx : x ∈ S) (hy : y ∈ S) (n : x ≠ y) : o p x y = true ∨ o p y x = true := by
  rcases Bool.eq_false_or_eq_true (o p x y) with h | h
  · exact Or.inl h
  · have := cr4 H.1 (ps_p H) (ps_P H hx).1 (ps_P H hy).1 (ps_P H hx).2 (ps_P H hy).2 n
    rw [h] at this
    exact Or.inr this
theorem ps_asym (H : PSM P o p S M) {x y : Nat} (hx : x ∈ S) (hy : y ∈ S) (n : x ≠ y) (h : o p x y = true) : o p y x = false := by
  have := cr4 H.1 (ps_p H) (ps_P H hx).1 (ps_P H hy).1 (ps_P H hx).2 (ps_P H hy).2 n
  rw [h] at this
  exact this
theorem ps_ne (H : PSM P o p S M) {x y z : Nat} (hx : x ∈ S) (hy : y ∈ S) (nxy : x ≠ y) (h : o p x y = true) (k : o p y z = true) : x ≠ z := by
  intro e
  subst e
  rw [ps_asym H hx hy nxy h] at k
  cases k
theorem ps_tr (H : PSM P o p S M) {x y z : Nat} (hx : x ∈ S) (hy : y ∈ S) (hz : z ∈ S) (nxy : x ≠ y) (nyz : y ≠ z) (h : o p x y = true) (k : o p y z = true) : o p x z = true :=
  H.2.2.2.1 x y z hx hy hz nxy (ps_ne H hx hy nxy h k) nyz h k
/-- the least of some, in the order round p -/
theorem ps_min (H : PSM P o p S M) {X : Nat → Prop} (h : ∃ x, x ∈ S ∧ X x) : ∃ m, m ∈ S ∧ X m ∧ ∀ y, y ∈ S → X y → y ≠ m → o p m y = true := by
  obtain ⟨m, hm, ⟨_, xm⟩, hmin⟩ := ex_min (X := fun x => x ∈ S ∧ X x) (R := fun x y => x ≠ y ∧ o p x y = true) (fun x _ r => r.1 rfl)
    (fun x y z hx hy hz r1 r2 => ⟨ps_ne H hx.1 hy.1 r1.1 r1.2 r2.2, ps_tr H hx.1 hy.1 hz.1 r1.1 r2.1 r1.2 r2.2⟩) S (by obtain ⟨x, hx, xx⟩ := h; exact ⟨x, hx, hx, xx⟩)
  refine ⟨m, hm, xm, fun y hy xy n => ?_⟩
  rcases ps_tot H hm hy n.symm with h | h
  · exact h
  · exact (hmin y hy ⟨hy, xy⟩ ⟨n, h⟩).elim
theorem ps_max (H : PSM P o p S M) {X : Nat → Prop} (h : ∃ x, x ∈ S ∧ X x) : ∃ m, m ∈ S ∧ X m ∧ ∀ y, y ∈ S → X y → y ≠ m → o p y m = true := by
  obtain ⟨m, hm, ⟨_, xm⟩, hmin⟩ := ex_min (X := fun x => x ∈ S ∧ X x) (R := fun x y => x ≠ y ∧ o p y x = true) (fun x _ r => r.1 rfl)
    (fun x y z hx hy hz r1 r2 => ⟨(ps_ne H hz.1 hy.1 r2.1.symm r2.2 r1.2).symm, ps_tr H hz.1 hy.1 hx.1 r2.1.symm r1.1.symm r2.2 r1.2⟩) S (by obtain ⟨x, hx, xx⟩ := h; exact ⟨x, hx, hx, xx⟩)
  refine ⟨m, hm, xm, fun y hy xy n => ?_⟩
  rcases ps_tot H hm hy n.symm with h | h
  · exact (hmin y hy ⟨hy, xy⟩ ⟨n, h⟩).elim
  · exact h
/-- what no edge of the others crosses is an edge at p -/
theorem ps_edge (H : PSM P o p S M) {t : Nat} (ht : t ∈ S) (h : ∀ u v, M u v → u ∈ S → v ∈ S → crs o u v p t = true → False) : M p t := by
  refine H.2.2.2.2.2.2 p t List.mem_cons_self (List.mem_cons_of_mem _ ht) (ps_P H ht).2 (fun c d hcd => bf (fun hx => ?_))
  obtain ⟨cl, dl, ncd, hdc⟩ := H.2.2.2.2.1 c d hcd
  obtain ⟨n1, n2, n3, n4⟩ := crs_d hx
  rw [crs_sw] at hx
  refine h c d hcd ?_ ?_ hx
  · rcases List.mem_cons.mp cl with e | e
    · exact (n1 e.symm).elim
    · exact e
  · rcases List.mem_cons.mp dl with e | e
    · exact (n2 e.symm).elim
    · exact e
/-- an edge that crosses pt has an end ahead of t and one behind it -/
theorem ps_sides (H : PSM P o p S M) {u v t : Nat} (hu : u ∈ S) (hv : v ∈ S) (ht : t ∈ S) (h : crs o u v p t = true) : (o p u t = true ∧ o p t v = true) ∨ (o p v t = true ∧ o p t u = true) := by
  obtain ⟨n1, n2, n3, n4⟩ := crs_d h
  have h2 := crs_t2 h
  rcases ps_tot H hu ht n2 with k | k
  · have k2 := ps_asym H hu ht n2 k
    rw [k2] at h2
    refine Or.inl ⟨k, ?_⟩
    cases e : o p t v with
    | true => rfl
    | false => rw [e] at h2; cases h2
  · rw [k] at h2
    have e : o p t v = false := by
      cases e : o p t v with
      | false => rfl
      | true => rw [e] at h2; cases h2
    rcases ps_tot H hv ht n4 with j | j
    · exact Or.inr ⟨j, k⟩
    · rw [e] at j; cases j
theorem ps_last (H : PSM P o p S M) {t : Nat} (ht : t ∈ S) (h : ∀ y, y ∈ S → y ≠ t → o p y t = true) : M p t :=
  ps_edge H ht (fun u v _ hu hv hx => by
    rcases ps_sides H hu hv ht hx with ⟨_, k⟩ | ⟨_, k⟩
    · have := ps_asym H hv ht (crs_d hx).2.2.2 (h v hv (crs_d hx).2.2.2)
      rw [k] at this; cases this
    · have := ps_asym H hu ht (crs_d hx).2.1 (h u hu (crs_d hx).2.1)
      rw [k] at this; cases this)
theorem ps_first (H : PSM P o p S M) {t : Nat} (ht : t ∈ S) (h : ∀ y, y ∈ S → y ≠ t → o p t y = true) : M p t :=
  ps_edge H ht (fun u v _ hu hv hx => by
    rcases ps_sides H hu hv ht hx with ⟨k, _⟩ | ⟨k, _⟩
    · have := ps_asym H hu ht (crs_d hx).2.1 k
      rw [h u hu (crs_d hx).2.1] at this; cases this
    · have := ps_asym H hv ht (crs_d hx).2.2.2 k
      rw [h v hv (crs_d hx).2.2.2] at this; cases this)
/-- the next neighbour behind y, if a point is there -/
theorem ps_next (H : PSM P o p S M) {y : Nat} (hy : y ∈ S) (h : ∃ q, q ∈ S ∧ q ≠ y ∧ o p y q = true) : ∃ w, M p w ∧ w ≠ y ∧ o p y w = true ∧ ∀ c, M p c → c ≠ y → c ≠ w → o p y c = true → o p w c = true := by
  obtain ⟨q, hq, nq, kq⟩ := h
  obtain ⟨t, ht, _, hmax⟩ := ps_max H (X := fun _ => True) ⟨q, hq, trivial⟩
  have hpt := ps_last H ht (fun z hz n => hmax z hz trivial n)
  have nty : t ≠ y := by
    intro e
    subst e
    have := ps_asym H hq ht nq (hmax q hq trivial nq)
    rw [kq] at this; cases this
  have kty := hmax y hy trivial nty.symm
  obtain ⟨w, hw, ⟨hpw, nwy, kw⟩, hmin⟩ := ps_min H (X := fun x => M p x ∧ x ≠ y ∧ o p y x = true) ⟨t, ht, hpt, nty, kty⟩
  exact ⟨w, hpw, nwy, kw, fun c hc n1 n2 k => hmin c (ps_S H hc).1 ⟨hc, n1, k⟩ n2⟩
theorem ps_prev (H : PSM P o p S M) {y : Nat} (hy : y ∈ S) (h : ∃ q, q ∈ S ∧ q ≠ y ∧ o p q y = true) : ∃ w, M p w ∧ w ≠ y ∧ o p w y = true ∧ ∀ c, M p c → c ≠ y → c ≠ w → o p c y = true → o p c w = true := by
  obtain ⟨q, hq, nq, kq⟩ := h
  obtain ⟨t, ht, _, hmin⟩ := ps_min H (X := fun _ => True) ⟨q, hq, trivial⟩
  have hpt := ps_first H ht (fun z hz n => hmin z hz trivial n)
  have nty : t ≠ y := by
    intro e
    subst e
    have := ps_asym H hq ht nq kq
    rw [hmin q hq trivial nq] at this; cases this
  have kty := hmin y hy trivial nty.symm
  obtain ⟨w, hw, ⟨hpw, nwy, kw⟩, hmax⟩ := ps_max H (X := fun x => M p x ∧ x ≠ y ∧ o p x y = true) ⟨t, ht, hpt, nty, kty⟩
  exact ⟨w, hpw, nwy, kw, fun c hc n1 n2 k => hmax c (ps_S H hc).1 ⟨hc, n1, k⟩ n2⟩
theorem nx_tri (H : PSM P o p S M) {a b : Nat} (h : Nx o M p a b) : M a b ∧ ∀ q, q ∈ p :: S → wit o q p a b = false :=
  wedge H.1 H.2.1 H.2.2.2.2 h.1 h.2.1 h.2.2.1 h.2.2.2.1 h.2.2.2.2
/-- a point that is no neighbour lies between two neighbours, beyond the edge between them -/
theorem ps_between (H : PSM P o p S M) {u : Nat} (hu : u ∈ S) (h : ¬ M p u) : ∃ a b, Nx o M p a b ∧ o p a u = true ∧ o p u b = true ∧ a ≠ u ∧ u ≠ b ∧ o a u b = true := by
  have e1 : ∃ q, q ∈ S ∧ q ≠ u ∧ o p q u = true := Classical.byContradiction (fun hn => h (ps_first H hu (fun y hy n => by
    rcases ps_tot H hu hy n.symm with k | k
    · exact k
    · exact (hn ⟨y, hy, n, k⟩).elim)))
  have e2 : ∃ q, q ∈ S ∧ q ≠ u ∧ o p u q = true := Classical.byContradiction (fun hn => h (ps_last H hu (fun y hy n => by
    rcases ps_tot H hu hy n.symm with k | k
    · exact (hn ⟨y, hy, n, k⟩).elim
    · exact k)))
  obtain ⟨a, ha, nau, kau, hamax⟩ := ps_prev H hu e1
  obtain ⟨b, hb, nbu, kub, hbmin⟩ := ps_next H hu e2
  have sa := ps_S H ha
  have sb := ps_S H hb
  have nab := ps_ne H sa.1 hu nau kau kub
  have kab := ps_tr H sa.1 hu sb.1 nau nbu.symm kau kub
  have hnx : Nx o M p a b := ⟨ha, hb, nab, kab, fun c hc n1 n2 k1 k2 => by
    have sc := ps_S H hc
    have ncu : c ≠ u := fun e => h (e ▸ hc)
    rcases ps_tot H sc.1 hu ncu with k | k
    · have := ps_asym H sa.1 sc.1 n1.symm k1
      rw [hamax c hc ncu n1 k] at this; cases this
    · have := ps_asym H sc.1 sb.1 n2 k2
      rw [hbmin c hc ncu n2 k] at this; cases this⟩
  refine ⟨a, b, hnx, kau, kub, nau, nbu.symm, bt (fun e => ?_)⟩
  have pp := ps_p H
  have pa := sa.2.2.1
  have pb := sb.2.2.1
  have pu := (ps_P H hu).1
  have npa := sa.2.1
  have npb := sb.2.1
  have npu := (ps_P H hu).2
  exact tu1 H.1 kau kab kub ((nx_tri H hnx).2 u (List.mem_cons_of_mem _ hu)) e
/-- no neighbour of p can be flipped away -/
def NoFl (o : Nat → Nat → Nat → Bool) (M : Nat → Nat → Prop) (p : Nat) : Prop := ∀ a d b, Nx o M p a d → Nx o M p d b → o a d b = false
end
