/-! NETS as maximal sets of edges that don't cross; the wedge between two neighbours. -/
theorem ex_min {X : Nat → Prop} {R : Nat → Nat → Prop} (irr : ∀ x, X x → ¬ R x x) (tr : ∀ x y z, X x → X y → X z → R x y → R y z → R x z) : ∀ l : List Nat, (∃ x, x ∈ l ∧ X x) → ∃ m, m ∈ l ∧ X m ∧ ∀ y, y ∈ l → X y → ¬ R y m
  | [], h => by obtain ⟨x, hx, _⟩ := h; cases hx
  | a :: t, h => by
    by_cases ht : ∃ x, x ∈ t ∧ X x
    · obtain ⟨m, hm, xm, hmin⟩ := ex_min irr tr t ht
      by_cases hr : X a ∧ R a m
      · refine ⟨a, List.mem_cons_self, hr.1, fun y hy xy hya => ?_⟩
        rcases List.mem_cons.mp hy with e | e
        · subst e; exact irr y xy hya
        · exact hmin y e xy (tr y a m xy hr.1 xm hya hr.2)
      · refine ⟨m, List.mem_cons_of_mem _ hm, xm, fun y hy xy hym => ?_⟩
        rcases List.mem_cons.mp hy with e | e
        · subst e; exact hr ⟨xy, hym⟩
        · exact hmin y e xy hym
    · obtain ⟨x, hx, xx⟩ := h
      have hxa : x = a := by
        rcases List.mem_cons.mp hx with e | e
        · exact e
        · exact (ht ⟨x, e, xx⟩).elim
      subst hxa
      refine ⟨x, List.mem_cons_self, xx, fun y hy xy hyx => ?_⟩
      rcases List.mem_cons.mp hy with e | e
      · subst e; exact irr y xy hyx
      · exact ht ⟨y, e, xy⟩
def Net (o : Nat → Nat → Nat → Bool) (l : List Nat) (M : Nat → Nat → Prop) : Prop :=
  (∀ a b, M a b → a ∈ l ∧ b ∈ l ∧ a ≠ b ∧ M b a) ∧
  (∀ a b c d, M a b → M c d → crs o a b c d = false) ∧
  (∀ a b, a ∈ l → b ∈ l → a ≠ b → (∀ c d, M c d → crs o a b c d = false) → M a b)
section
variable {P : Nat → Prop} {o : Nat → Nat → Nat → Bool}
theorem bnn (x y : Bool) : ((!x) != (!y)) = (x != y) := by cases x <;> cases y <;> rfl
theorem bnc (x y : Bool) : (x != y) = (y != x) := by cases x <;> cases y <;> rfl
theorem crs_sw (a b c d : Nat) : crs o a b c d = crs o c d a b := by
  unfold crs ccFC
  rw [bne_comm (a := c) (b := a), bne_comm (a := c) (b := b), bne_comm (a := d) (b := a), bne_comm (a := d) (b := b)]
  cases (a != c) <;> cases (a != d) <;> cases (b != c) <;> cases (b != d) <;> simp [Bool.and_comm]
theorem crs_l (C : CC P o) {a b c d : Nat} (pa : P a) (pb : P b) (pc : P c) (pd : P d) (nab : a ≠ b) : crs o b a c d = crs o a b c d := by
  by_cases h1 : a = c
  · subst h1; simp [crs]
  by_cases h2 : a = d
  · subst h2; simp [crs]
  by_cases h3 : b = c
  · subst h3; simp [crs]
  by_cases h4 : b = d
  · subst h4; simp [crs]
  unfold crs ccFC
  rw [cr3 C pa pb pc nab h1 h3, cr3 C pa pb pd nab h2 h4, bnn, bnc (o c d b), bne_iff_ne.mpr h1, bne_iff_ne.mpr h2, bne_iff_ne.mpr h3, bne_iff_ne.mpr h4]
theorem crs_r (C : CC P o) {a b c d : Nat} (pa : P a) (pb : P b) (pc : P c) (pd : P d) (ncd : c ≠ d) : crs o a b d c = crs o a b c d := by
  rw [crs_sw a b d c, crs_l C pc pd pa pb ncd, crs_sw]
theorem wit_rot (C : CC P o) {q a b c : Nat} (pa : P a) (pb : P b) (pc : P c) (nab : a ≠ b) (nac : a ≠ c) (nbc : b ≠ c) : wit o q b c a = wit o q a b c := by
  unfold wit ccFW
  rw [cr1 C pa pb pc nab nac nbc]
  cases (q != a) <;> cases (q != b) <;> cases (q != c) <;> cases o a b c <;> cases o b c q <;> cases o c a q <;> cases o a b q <;> rfl
theorem wit_sw (C : CC P o) {q a b c : Nat} (pq : P q) (pa : P a) (pb : P b) (pc : P c) (nab : a ≠ b) (nac : a ≠ c) (nbc : b ≠ c) : wit o q b a c = wit o q a b c := by
  by_cases h1 : q = a
  · subst h1; simp [wit]
  by_cases h2 : q = b
  · subst h2; simp [wit]
  by_cases h3 : q = c
  · subst h3; simp [wit]
  unfold wit ccFW
  rw [cr3 C pa pb pc nab nac nbc, cr3 C pa pb pq nab (Ne.symm h1) (Ne.symm h2), cr3 C pc pa pq (Ne.symm nac) (Ne.symm h3) (Ne.symm h1), cr3 C pb pc pq nbc (Ne.symm h2) (Ne.symm h3), bne_iff_ne.mpr h1, bne_iff_ne.mpr h2, bne_iff_ne.mpr h3]
  cases o a b c <;> cases o b c q <;> cases o c a q <;> cases o a b q <;> rfl
theorem net_n {l : List Nat} {M : Nat → Nat → Prop} (N : Net o l M) {a b c d : Nat} (h : M a b) (k : M c d) : crs o a b c d = false := N.2.1 a b c d h k
theorem wedge (C : CC P o) {l : List Nat} {M : Nat → Nat → Prop} (hl : ∀ x, x ∈ l → P x) (N : Net o l M) {a b w : Nat} (hab : M a b) (haw : M a w) (nbw : b ≠ w) (h : o a b w = true)
    (hc : ∀ c, M a c → c ≠ b → c ≠ w → o a b c = true → o a c w = true → False) : M b w ∧ ∀ q, q ∈ l → wit o q a b w = false := by
  obtain ⟨al, bl, nab, hba⟩ := N.1 a b hab
  obtain ⟨_, wl, naw, hwa⟩ := N.1 a w haw
  have pa := hl a al
  have pb := hl b bl
  have pw := hl w wl
  have em : ∀ q, q ∈ l → wit o q a b w = false := by
    intro q0 hq0
    apply bf
    intro hw0
    obtain ⟨q, hq, ⟨_, hwq⟩, hmin⟩ := ex_min (X := fun x => x ∈ l ∧ wit o x a b w = true) (R := fun x y => x ≠ y ∧ o b y x = true) (fun x _ r => r.1 rfl) (by
      intro x y z hx hy hz r1 r2
      have px := hl x hx.1
      have py := hl y hy.1
      have pz := hl z hz.1
      obtain ⟨nxa, nxb, nxw⟩ := wit_d hx.2
      obtain ⟨nya, nyb, nyw⟩ := wit_d hy.2
      obtain ⟨nza, nzb, nzw⟩ := wit_d hz.2
      have nxy := r1.1
      have nyz := r2.1
      have nxz : x ≠ z := by
        intro e
        subst e
        have := cr4 C pb px py nxb.symm nyb.symm nxy
        rw [r1.2, r2.2] at this
        cases this
      exact ⟨nxz, bt (fun e => tB C (bt (fun e2 => tq1 C h hz.2 e2)) (bt (fun e2 => tq1 C h hy.2 e2)) (bt (fun e2 => tq1 C h hx.2 e2)) r2.2 r1.2 e)⟩) l ⟨q0, hq0, hq0, hw0⟩
    have pq := hl q hq
    obtain ⟨nqa, nqb, nqw⟩ := wit_d hwq
    have hW : ∀ v, v ∈ l → v ≠ a → v ≠ b → v ≠ w → v ≠ q → ccW4 (o a b v) (o b w v) (o w a v) (o b q v) = false := by
      intro v hv n1 n2 n3 n4
      apply bf
      intro hx
      unfold ccW4 at hx
      simp only [Bool.and_eq_true] at hx
      exact hmin v hv ⟨hv, wit_of n1 n2 n3 (hx.1.1.1.trans h.symm) (hx.1.1.2.trans h.symm) (hx.1.2.trans h.symm)⟩ ⟨n4, hx.2⟩
    have key : ∀ c d, M c d → crs o c d a q = true → (c = b ∨ c = w ∨ (c ≠ b ∧ c ≠ w ∧ d ≠ b ∧ d ≠ w)) → False := by
      intro c d hcd hx hcase
      obtain ⟨cl, dl, ncd, hdc⟩ := N.1 c d hcd
      obtain ⟨nca, ncq, nda, ndq⟩ := crs_d hx
      have pc := hl c cl
      have pd := hl d dl
      rcases hcase with e | e | ⟨e1, e2, e3, e4⟩
      · subst e
        by_cases e2 : d = w
        · subst e2
          exact tw4 C h hwq hx
        · exact tw2 C h hwq hx (net_n N hcd haw) (hW d dl nda ncd.symm e2 ndq)
      · subst e
        by_cases e2 : d = b
        · subst e2
          rw [crs_l C pd pc pa pq ncd.symm] at hx
          exact tw4 C h hwq hx
        · exact tw3 C h hwq hx (net_n N hcd hab) (hW d dl nda e2 ncd.symm ndq)
      · exact tw1 C h hwq hx (net_n N hcd hab) (net_n N hcd haw) (hW c cl nca e1 e2 ncq) (hW d dl nda e3 e4 ndq)
    have haq : M a q := N.2.2 a q al hq nqa.symm (fun c d hcd => bf (fun hx => by
      rw [crs_sw] at hx
      obtain ⟨cl, dl, ncd, hdc⟩ := N.1 c d hcd
      have pc := hl c cl
      have pd := hl d dl
      by_cases e1 : c = b
      · exact key c d hcd hx (Or.inl e1)
      by_cases e2 : c = w
      · exact key c d hcd hx (Or.inr (Or.inl e2))
      by_cases e3 : d = b
      · exact key d c hdc (by rw [crs_l C pc pd pa pq ncd]; exact hx) (Or.inl e3)
      by_cases e4 : d = w
      · exact key d c hdc (by rw [crs_l C pc pd pa pq ncd]; exact hx) (Or.inr (Or.inl e4))
      exact key c d hcd hx (Or.inr (Or.inr ⟨e1, e2, e3, e4⟩))))
    exact hc q haq nqb nqw (bt (fun e2 => tq1 C h hwq e2)) (bt (fun e2 => tq2 C h hwq e2))
  refine ⟨N.2.2 b w bl wl nbw (fun u v huv => bf (fun hx => ?_)), em⟩
  rw [crs_sw] at hx
  obtain ⟨ul, vl, nuv, hvu⟩ := N.1 u v huv
  obtain ⟨nub, nuw, nvb, nvw⟩ := crs_d hx
  have pu := hl u ul
  have pv := hl v vl
  by_cases e1 : u = a
  · subst e1
    exact hc v huv nvb nvw (bt (fun e => tw6 C h hx e)) (bt (fun e => tw7 C h hx e))
  by_cases e2 : v = a
  · subst e2
    rw [crs_l C pv pu pb pw nuv.symm] at hx
    exact hc u hvu nub nuw (bt (fun e => tw6 C h hx e)) (bt (fun e => tw7 C h hx e))
  exact tw5 C h hx (net_n N huv hab) (net_n N huv haw) (em u ul) (em v vl)
end
