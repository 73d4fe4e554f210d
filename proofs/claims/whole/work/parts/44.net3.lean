/-! Where no neighbour of the extreme point can be flipped away, no edge of the others crosses an edge at it. -/
theorem countP_lt' {α : Type} {p q : α → Bool} : ∀ l : List α, (∀ x, x ∈ l → p x = true → q x = true) → (∃ x, x ∈ l ∧ q x = true ∧ p x = false) → l.countP p < l.countP q
  | [], _, h => by obtain ⟨x, hx, _⟩ := h; cases hx
  | a :: t, hpq, h => by
    rw [List.countP_cons, List.countP_cons]
    have hle : t.countP p ≤ t.countP q := List.countP_mono_left (fun x hx => hpq x (List.mem_cons_of_mem _ hx))
    obtain ⟨x, hx, hq, hp⟩ := h
    rcases List.mem_cons.mp hx with e | e
    · subst e
      rw [hq, hp]
      simp
      omega
    · have := countP_lt' t (fun y hy => hpq y (List.mem_cons_of_mem _ hy)) ⟨x, e, hq, hp⟩
      have h2 := hpq a List.mem_cons_self
      cases hpa : p a with
      | false =>
        cases q a <;> simp <;> omega
      | true =>
        rw [h2 hpa]
        simp
        omega
noncomputable def cdec (q : Prop) : Bool := @decide q (Classical.propDecidable q)
theorem cdec_t {q : Prop} (h : q) : cdec q = true := by unfold cdec; exact @decide_eq_true q (Classical.propDecidable q) h
theorem cdec_f {q : Prop} (h : ¬ q) : cdec q = false := by unfold cdec; exact @decide_eq_false q (Classical.propDecidable q) h
theorem cdec_of {q : Prop} (h : cdec q = true) : q := by unfold cdec at h; exact @of_decide_eq_true q (Classical.propDecidable q) h
section
variable {P : Nat → Prop} {o : Nat → Nat → Nat → Bool} {p : Nat} {S : List Nat} {M : Nat → Nat → Prop}
theorem ps_lt (H : PSM P o p S M) {x y : Nat} (hx : M p x) (hy : M p y) (h : o p x y = true) (k : o p y x = true) (n : x ≠ y) : False := by
  have := ps_asym H (ps_S H hx).1 (ps_S H hy).1 n h
  rw [k] at this; cases this
noncomputable def spn (o : Nat → Nat → Nat → Bool) (p : Nat) (S : List Nat) (M : Nat → Nat → Prop) (a b : Nat) : Nat := S.countP (fun c => cdec (M p c ∧ c ≠ a ∧ c ≠ b ∧ o p a c = true ∧ o p c b = true))
theorem spn_l (H : PSM P o p S M) {a x b : Nat} (ha : M p a) (hx : M p x) (hb : M p b) (n1 : a ≠ x) (n2 : x ≠ b) (k1 : o p a x = true) (k2 : o p x b = true) : spn o p S M a x < spn o p S M a b := by
  have sa := ps_S H ha
  have sx := ps_S H hx
  have sb := ps_S H hb
  refine countP_lt' S (fun c hc h => ?_) ⟨x, sx.1, cdec_t ⟨hx, n1.symm, n2, k1, k2⟩, cdec_f (fun h => h.2.2.1 rfl)⟩
  obtain ⟨hc2, m1, m2, j1, j2⟩ := cdec_of h
  exact cdec_t ⟨hc2, m1, ps_ne H hc sx.1 m2 j2 k2, j1, ps_tr H hc sx.1 sb.1 m2 n2 j2 k2⟩
theorem spn_r (H : PSM P o p S M) {a x b : Nat} (ha : M p a) (hx : M p x) (hb : M p b) (n1 : a ≠ x) (n2 : x ≠ b) (k1 : o p a x = true) (k2 : o p x b = true) : spn o p S M x b < spn o p S M a b := by
  have sa := ps_S H ha
  have sx := ps_S H hx
  have sb := ps_S H hb
  refine countP_lt' S (fun c hc h => ?_) ⟨x, sx.1, cdec_t ⟨hx, n1.symm, n2, k1, k2⟩, cdec_f (fun h => h.2.1 rfl)⟩
  obtain ⟨hc2, m1, m2, j1, j2⟩ := cdec_of h
  exact cdec_t ⟨hc2, (ps_ne H sa.1 sx.1 n1 k1 j1).symm, m2, ps_tr H sa.1 sx.1 hc n1 m1.symm k1 j1, j2⟩
theorem cvx_all (H : PSM P o p S M) (hn : NoFl o M p) : ∀ (s a d b : Nat), spn o p S M a b ≤ s → M p a → M p d → M p b → a ≠ d → d ≠ b → o p a d = true → o p d b = true → o a d b = false := by
  intro s
  induction s with
  | zero =>
    intro a d b hs ha hd hb n1 n2 k1 k2
    have := spn_l H ha hd hb n1 n2 k1 k2
    omega
  | succ s ih =>
    intro a d b hs ha hd hb n1 n2 k1 k2
    have sa := ps_S H ha
    have sd := ps_S H hd
    have sb := ps_S H hb
    have pp := ps_p H
    have pa := sa.2.2.1
    have pd := sd.2.2.1
    have pb := sb.2.2.1
    have npa := sa.2.1
    have npd := sd.2.1
    have npb := sb.2.1
    have nab := ps_ne H sa.1 sd.1 n1 k1 k2
    have kab := ps_tr H sa.1 sd.1 sb.1 n1 n2 k1 k2
    have la := spn_l H ha hd hb n1 n2 k1 k2
    have lb := spn_r H ha hd hb n1 n2 k1 k2
    by_cases h1 : ∃ x, M p x ∧ x ≠ a ∧ x ≠ d ∧ o p a x = true ∧ o p x d = true
    · obtain ⟨x, hx, m1, m2, j1, j2⟩ := h1
      have sx := ps_S H hx
      have px := sx.2.2.1
      have npx := sx.2.1
      have nxb := ps_ne H sx.1 sd.1 m2 j2 k2
      have kxb := ps_tr H sx.1 sd.1 sb.1 m2 n2 j2 k2
      have lx := spn_r H ha hx hb m1.symm nxb j1 kxb
      have e1 := ih a x d (by omega) ha hx hd m1.symm m2 j1 j2
      have e2 := ih x d b (by omega) hx hd hb m2 n2 j2 k2
      exact bf (fun e => ts1 H.1 j1 k1 kab j2 kxb k2 e1 e2 e)
    · by_cases h2 : ∃ x, M p x ∧ x ≠ d ∧ x ≠ b ∧ o p d x = true ∧ o p x b = true
      · obtain ⟨x, hx, m1, m2, j1, j2⟩ := h2
        have sx := ps_S H hx
        have px := sx.2.2.1
        have npx := sx.2.1
        have nax := ps_ne H sa.1 sd.1 n1 k1 j1
        have kax := ps_tr H sa.1 sd.1 sx.1 n1 m1.symm k1 j1
        have lx := spn_l H ha hx hb nax m2 kax j2
        have e1 := ih a d x (by omega) ha hd hx n1 m1.symm k1 j1
        have e2 := ih d x b (by omega) hd hx hb m1.symm m2 j1 j2
        exact bf (fun e => ts2 H.1 k1 kax kab j1 k2 j2 e1 e2 e)
      · exact hn a d b ⟨ha, hd, n1, k1, fun c hc m1 m2 j1 j2 => h1 ⟨c, hc, m1, m2, j1, j2⟩⟩ ⟨hd, hb, n2, k2, fun c hc m1 m2 j1 j2 => h2 ⟨c, hc, m1, m2, j1, j2⟩⟩
theorem nc_left (H : PSM P o p S M) (hn : NoFl o M p) {u d v : Nat} (hu : u ∈ S) (hd : M p d) (hv : v ∈ S) (n1 : u ≠ d) (n2 : d ≠ v) (k1 : o p u d = true) (k2 : o p d v = true) (h : o u d v = true) : ∃ a, M p a ∧ a ≠ d ∧ o p a d = true ∧ o a d v = true := by
  by_cases hm : M p u
  · exact ⟨u, hm, n1, k1, h⟩
  obtain ⟨a, b, hnx, kau, kub, nau, nub, hb⟩ := ps_between H hu hm
  have sa := ps_S H hnx.1
  have sb := ps_S H hnx.2.1
  have sd := ps_S H hd
  have pp := ps_p H
  have pa := sa.2.2.1
  have pb := sb.2.2.1
  have pd := sd.2.2.1
  have pu := (ps_P H hu).1
  have pv := (ps_P H hv).1
  have npa := sa.2.1
  have npb := sb.2.1
  have npd := sd.2.1
  have npu := (ps_P H hu).2
  have npv := (ps_P H hv).2
  have nab := hnx.2.2.1
  have kab := hnx.2.2.2.1
  have nuv := ps_ne H hu sd.1 n1 k1 k2
  have kuv := ps_tr H hu sd.1 hv n1 n2 k1 k2
  have nad := ps_ne H sa.1 hu nau kau k1
  have kad := ps_tr H sa.1 hu sd.1 nau n1 kau k1
  have nav := ps_ne H sa.1 sd.1 nad kad k2
  have kav := ps_tr H sa.1 sd.1 hv nad n2 kad k2
  by_cases e : b = d
  · subst e
    exact ⟨a, hnx.1, nad, kad, bt (fun e => tn1 H.1 kau kad kav k1 kuv k2 hb h e)⟩
  rcases ps_tot H sb.1 sd.1 e with kbd | kdb
  · have nbv := ps_ne H sb.1 sd.1 e kbd k2
    have kbv := ps_tr H sb.1 sd.1 hv e n2 kbd k2
    have c1 := cvx_all H hn _ a b d (Nat.le_refl _) hnx.1 hnx.2.1 hd nab e kab kbd
    have c2 : o u b d = false := bf (fun e => tn2 H.1 kau kab kad kub k1 kbd hb c1 e)
    exact ⟨b, hnx.2.1, e, kbd, bt (fun e => tn3 H.1 kub k1 kuv kbd kbv k2 c2 h e)⟩
  · exact (hnx.2.2.2.2 d hd nad.symm (Ne.symm e) kad kdb).elim
theorem nc_right (H : PSM P o p S M) (hn : NoFl o M p) {a d v : Nat} (ha : M p a) (hd : M p d) (hv : v ∈ S) (n1 : a ≠ d) (n2 : d ≠ v) (k1 : o p a d = true) (k2 : o p d v = true) (h : o a d v = true) : ∃ c, M p c ∧ d ≠ c ∧ o p d c = true ∧ o a d c = true := by
  by_cases hm : M p v
  · exact ⟨v, hm, n2, k2, h⟩
  obtain ⟨b, c, hnx, kbv, kvc, nbv, nvc, hb⟩ := ps_between H hv hm
  have sb := ps_S H hnx.1
  have sc := ps_S H hnx.2.1
  have sa := ps_S H ha
  have sd := ps_S H hd
  have pp := ps_p H
  have pa := sa.2.2.1
  have pb := sb.2.2.1
  have pc := sc.2.2.1
  have pd := sd.2.2.1
  have pv := (ps_P H hv).1
  have npa := sa.2.1
  have npb := sb.2.1
  have npc := sc.2.1
  have npd := sd.2.1
  have npv := (ps_P H hv).2
  have nbc := hnx.2.2.1
  have kbc := hnx.2.2.2.1
  have nav := ps_ne H sa.1 sd.1 n1 k1 k2
  have kav := ps_tr H sa.1 sd.1 hv n1 n2 k1 k2
  have ndc := ps_ne H sd.1 hv n2 k2 kvc
  have kdc := ps_tr H sd.1 hv sc.1 n2 nvc k2 kvc
  have nac := ps_ne H sa.1 sd.1 n1 k1 kdc
  have kac := ps_tr H sa.1 sd.1 sc.1 n1 ndc k1 kdc
  by_cases e : b = d
  · subst e
    exact ⟨c, hnx.2.1, ndc, kdc, bt (fun e => tm1 H.1 k1 kav kac k2 kdc kvc hb h e)⟩
  rcases ps_tot H sb.1 sd.1 e with kbd | kdb
  · exact (hnx.2.2.2.2 d hd (Ne.symm e) ndc kbd kdc).elim
  · have nab := ps_ne H sa.1 sd.1 n1 k1 kdb
    have kab := ps_tr H sa.1 sd.1 sb.1 n1 (Ne.symm e) k1 kdb
    have c1 := cvx_all H hn _ d b c (Nat.le_refl _) hd hnx.1 hnx.2.1 (Ne.symm e) nbc kdb kbc
    have c2 : o d b v = false := bf (fun e => tm2 H.1 kdb k2 kdc kbv kbc kvc hb c1 e)
    exact ⟨b, hnx.1, Ne.symm e, kdb, bt (fun e => tm3 H.1 k1 kab kav kdb k2 kbv c2 h e)⟩
theorem nc_no (H : PSM P o p S M) (hn : NoFl o M p) {u v d : Nat} (hu : u ∈ S) (hv : v ∈ S) (hd : M p d) (h : crs o u v p d = true) : False := by
  have sd := ps_S H hd
  have pp := ps_p H
  have pd := sd.2.2.1
  have npd := sd.2.1
  have key : ∀ u v, u ∈ S → v ∈ S → crs o u v p d = true → o p u d = true → o p d v = true → False := by
    intro u v hu hv h k1 k2
    have pu := (ps_P H hu).1
    have pv := (ps_P H hv).1
    have npu := (ps_P H hu).2
    have npv := (ps_P H hv).2
    obtain ⟨m1, m2, m3, m4⟩ := crs_d h
    have nuv := ps_ne H hu sd.1 m2 k1 k2
    have kuv := ps_tr H hu sd.1 hv m2 m4.symm k1 k2
    have b1 : o u d v = true := bt (fun e => tc1 H.1 k1 kuv k2 h e)
    obtain ⟨a, ha, nad, kad, b2⟩ := nc_left H hn hu hd hv m2 m4.symm k1 k2 b1
    obtain ⟨c, hc, ndc, kdc, b3⟩ := nc_right H hn ha hd hv nad m4.symm kad k2 b2
    rw [cvx_all H hn _ a d c (Nat.le_refl _) ha hd hc nad ndc kad kdc] at b3
    cases b3
  rcases ps_sides H hu hv sd.1 h with ⟨k1, k2⟩ | ⟨k1, k2⟩
  · exact key u v hu hv h k1 k2
  · refine key v u hv hu ?_ k1 k2
    have nuv : u ≠ v := by
      intro e
      subst e
      have := ps_asym H hu sd.1 (crs_d h).2.1 k1
      rw [k2] at this; cases this
    rw [crs_l H.1 (ps_P H hu).1 (ps_P H hv).1 pp pd nuv]
    exact h
/-- without p it is a net over the others -/
theorem nf_net (H : PSM P o p S M) (hn : NoFl o M p) : Net o S (fun x y => M x y ∧ x ≠ p ∧ y ≠ p) := by
  refine ⟨fun a b h => ?_, fun a b c d h k => H.2.2.2.2.2.1 a b c d h.1 k.1, fun a b ha hb nab h => ?_⟩
  · obtain ⟨al, bl, nab, hba⟩ := H.2.2.2.2.1 a b h.1
    refine ⟨?_, ?_, nab, hba, h.2.2, h.2.1⟩
    · rcases List.mem_cons.mp al with e | e
      · exact (h.2.1 e).elim
      · exact e
    · rcases List.mem_cons.mp bl with e | e
      · exact (h.2.2 e).elim
      · exact e
  · have ea := ps_P H ha
    have eb := ps_P H hb
    refine ⟨H.2.2.2.2.2.2 a b (List.mem_cons_of_mem _ ha) (List.mem_cons_of_mem _ hb) nab (fun c d hcd => ?_), ea.2.symm, eb.2.symm⟩
    by_cases e1 : c = p
    · subst e1
      exact bf (fun hx => nc_no H hn ha hb hcd hx)
    by_cases e2 : d = p
    · subst e2
      have hdc := (H.2.2.2.2.1 c d hcd).2.2.2
      have sc := ps_S H hdc
      rw [crs_r H.1 ea.1 eb.1 (ps_p H) sc.2.2.1 sc.2.1]
      exact bf (fun hx => nc_no H hn ha hb hdc hx)
    exact h c d ⟨hcd, e1, e2⟩
end
