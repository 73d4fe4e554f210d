/-! On the hull are those that are within no three. -/
theorem th1 {P : Nat → Prop} {o : Nat → Nat → Nat → Bool} (C : CC P o) {i b x y : Nat} (h1 : o i b x = true) (h2 : o i b y = true) (h3 : wit o i b x y = true) (pi : P i := by assumption) (pb : P b := by assumption) (px : P x := by assumption) (py : P y := by assumption) (nib : i ≠ b := by first | assumption | exact Ne.symm (by assumption) | omega) (nix : i ≠ x := by first | assumption | exact Ne.symm (by assumption) | omega) (niy : i ≠ y := by first | assumption | exact Ne.symm (by assumption) | omega) (nbx : b ≠ x := by first | assumption | exact Ne.symm (by assumption) | omega) (nby : b ≠ y := by first | assumption | exact Ne.symm (by assumption) | omega) (nxy : x ≠ y := by first | assumption | exact Ne.symm (by assumption) | omega) : False := by
  have k3 : o b x y = true := bt (fun e => (bl2t (wit_t1 h3) ((cr1 C pi pb px nib nix nbx).trans h1) e rfl))
  exact (bl2t (wit_t3 h3) ((cr5 C pi pb py nib niy nby).trans (congrArg not h2)) k3 rfl)
theorem th2 {P : Nat → Prop} {o : Nat → Nat → Nat → Bool} (C : CC P o) {i b x y z : Nat} (h1 : o i b x = true) (h2 : o i b y = true) (h3 : o i b z = true) (h4 : wit o i x y z = true) (pi : P i := by assumption) (pb : P b := by assumption) (px : P x := by assumption) (py : P y := by assumption) (pz : P z := by assumption) (nib : i ≠ b := by first | assumption | exact Ne.symm (by assumption) | omega) (nix : i ≠ x := by first | assumption | exact Ne.symm (by assumption) | omega) (niy : i ≠ y := by first | assumption | exact Ne.symm (by assumption) | omega) (niz : i ≠ z := by first | assumption | exact Ne.symm (by assumption) | omega) (nbx : b ≠ x := by first | assumption | exact Ne.symm (by assumption) | omega) (nby : b ≠ y := by first | assumption | exact Ne.symm (by assumption) | omega) (nbz : b ≠ z := by first | assumption | exact Ne.symm (by assumption) | omega) (nxy : x ≠ y := by first | assumption | exact Ne.symm (by assumption) | omega) (nxz : x ≠ z := by first | assumption | exact Ne.symm (by assumption) | omega) (nyz : y ≠ z := by first | assumption | exact Ne.symm (by assumption) | omega) : False := by
  rcases Bool.eq_false_or_eq_true (o i x y) with k4 | k4
  · skip
    have k5 : o x y z = true := bt (fun e => (bl2t (wit_t1 h4) ((cr1 C pi px py nix niy nxy).trans k4) e rfl))
    have k6 : o i y z = true := bt (fun e => (bl2t (wit_t2 h4) ((cr1 C pi py pz niy niz nyz).trans e) k5 rfl))
    have k7 : o i x z = false := bf (fun e => (bl2t (wit_t3 h4) ((cr5 C pi px pz nix niz nxz).trans (congrArg not e)) k5 rfl))
    exact (bl6t (ccG5 C pi pb px py pz nib nix niy niz nbx nby nbz nxy nxz nyz) h1 h2 h3 k4 k7 k6 rfl)
  · skip
    have k8 : o x y z = false := bf (fun e => (bl2t (wit_t1 h4) ((cr1 C pi px py nix niy nxy).trans k4) e rfl))
    have k9 : o i y z = false := bf (fun e => (bl2t (wit_t2 h4) ((cr1 C pi py pz niy niz nyz).trans e) k8 rfl))
    have k10 : o i x z = true := bt (fun e => (bl2t (wit_t3 h4) ((cr5 C pi px pz nix niz nxz).trans (congrArg not e)) k8 rfl))
    exact (bl6t (ccG5 C pi pb px py pz nib nix niy niz nbx nby nbz nxy nxz nyz) h1 h2 h3 k4 k10 k9 rfl)
theorem th3 {P : Nat → Prop} {o : Nat → Nat → Nat → Bool} (C : CC P o) {a b c p : Nat} (h1 : o a b p = true) (h2 : o b c p = true) (h3 : o a c p = false) (h4 : o a b c = false) (pa : P a := by assumption) (pb : P b := by assumption) (pc : P c := by assumption) (pp : P p := by assumption) (nab : a ≠ b := by first | assumption | exact Ne.symm (by assumption) | omega) (nac : a ≠ c := by first | assumption | exact Ne.symm (by assumption) | omega) (nap : a ≠ p := by first | assumption | exact Ne.symm (by assumption) | omega) (nbc : b ≠ c := by first | assumption | exact Ne.symm (by assumption) | omega) (nbp : b ≠ p := by first | assumption | exact Ne.symm (by assumption) | omega) (ncp : c ≠ p := by first | assumption | exact Ne.symm (by assumption) | omega) : False := by
  exact (bl4t (ccA4 C pa pb pc pp nab nac nap nbc nbp ncp) h4 h1 h3 h2 rfl)
section
variable {g : zIJ} {n : Nat} {X Y : Nat → Int}
/-- p is within no three -/
def NoIn (X Y : Nat → Int) (n p : Nat) : Prop := ∀ a b c, a < b → b < c → c < n → wit (oXY X Y) p a b c = false
theorem noin_any (h : GP X Y n) {p : Nat} (hp : p < n) (hq : NoIn X Y n p) {a b c : Nat} (ha : a < n) (hb : b < n) (hc : c < n) (nab : a ≠ b) (nac : a ≠ c) (nbc : b ≠ c) : wit (oXY X Y) p a b c = false := by
  have C := cc_xy h
  rcases Nat.lt_or_gt_of_ne nab with k1 | k1 <;> rcases Nat.lt_or_gt_of_ne nac with k2 | k2 <;> rcases Nat.lt_or_gt_of_ne nbc with k3 | k3
  · exact hq a b c k1 k3 hc
  · rw [← wit_p2 C hp ha hb hc nab nac nbc]; exact hq a c b k2 k3 hb
  · omega
  · rw [← wit_rot2 C ha hb hc nab nac nbc]; exact hq c a b k2 k1 hb
  · rw [← wit_sw C hp ha hb hc nab nac nbc]; exact hq b a c k1 k2 hc
  · omega
  · rw [← wit_rot C ha hb hc nab nac nbc]; exact hq b c a k3 k2 ha
  · rw [← wit_p3 C hp ha hb hc nab nac nbc]; exact hq c b a k3 k1 ha
theorem hb_noin (h : GP X Y n) {i b : Nat} (hi : i < n) (hb : HB X Y n i b) : NoIn X Y n i := by
  have C := cc_xy h
  intro x y z hxy hyz hzn
  apply bf
  intro w
  obtain ⟨n1, n2, n3⟩ := wit_d w
  have pi : (fun x => x < n) i := hi
  have pb : (fun x => x < n) b := hb.1
  have px : (fun k => k < n) x := by show x < n; omega
  have py : (fun k => k < n) y := by show y < n; omega
  have pz : (fun k => k < n) z := hzn
  have nib : i ≠ b := Ne.symm hb.2.1
  by_cases e1 : x = b
  · subst e1
    exact th1 C (x := y) (y := z) (hb.2.2 y py (Ne.symm n2) (by omega)) (hb.2.2 z pz (Ne.symm n3) (by omega)) w
  by_cases e2 : y = b
  · subst e2
    rw [← wit_rot C px py pz (by omega) (by omega) (by omega)] at w
    exact th1 C (x := z) (y := x) (hb.2.2 z pz (Ne.symm n3) (by omega)) (hb.2.2 x px (Ne.symm n1) (by omega)) w
  by_cases e3 : z = b
  · subst e3
    rw [← wit_rot2 C px py pz (by omega) (by omega) (by omega)] at w
    exact th1 C (x := x) (y := y) (hb.2.2 x px (Ne.symm n1) (by omega)) (hb.2.2 y py (Ne.symm n2) (by omega)) w
  have e1' : b ≠ x := Ne.symm e1
  have e2' : b ≠ y := Ne.symm e2
  have e3' : b ≠ z := Ne.symm e3
  exact th2 C (x := x) (y := y) (z := z) (hb.2.2 x px (Ne.symm n1) e1) (hb.2.2 y py (Ne.symm n2) e2) (hb.2.2 z pz (Ne.symm n3) e3) w
theorem hull_iff (h : GP X Y n) {m : Nat} {s : Nat → Nat} (hH : Hul X Y n m s) {i : Nat} (hi : i < n) : (∃ k, k < m ∧ s k = i) ↔ NoIn X Y n i := by
  have C := cc_xy h
  rcases hH with ⟨e0, _⟩ | ⟨hf, m1, mn, hs, hinj, hb, hcl⟩
  · omega
  · constructor
    · intro ⟨k, hk, e⟩
      subst e
      rcases hcl with ⟨q1, _⟩ | ⟨q1, q2⟩
      · intro a b c _ _ _; omega
      · by_cases e : k + 1 < m
        · exact hb_noin h hi (hb k e)
        · rw [show m - 1 = k from by omega] at q2
          exact hb_noin h hi q2
    · intro hno
      apply Classical.byContradiction
      intro hn
      have ns : ∀ k, k < m → i ≠ s k := fun k hk e => hn ⟨k, hk, e.symm⟩
      rcases hcl with ⟨q1, q2⟩ | ⟨q1, q2⟩
      · have := hs 0 (by omega)
        have := ns 0 (by omega)
        omega
      · have m2 : 2 ≤ m := by
          apply Classical.byContradiction
          intro hm
          rw [show m - 1 = 0 from by omega] at q2
          exact q2.2.1 rfl
        have s0 := hs 0 (by omega)
        have n0 := ns 0 (by omega)
        have first : oXY X Y (s 0) (s 1) i = true := (hb 0 (by omega)).2.2 i hi n0 (ns 1 (by omega))
        have last : oXY X Y (s 0) (s (m - 1)) i = false := by
          have k1 := q2.2.2 i hi (ns (m - 1) (by omega)) n0
          have sm := hs (m - 1) (by omega)
          rw [cr3 C sm s0 hi q2.2.1.symm (Ne.symm (ns (m - 1) (by omega))) (Ne.symm n0), k1]; rfl
        -- a switch
        have sw : ∀ (d k : Nat), 1 ≤ k → k + d = m - 1 → oXY X Y (s 0) (s k) i = true → ∃ j, 1 ≤ j ∧ j + 1 < m ∧ oXY X Y (s 0) (s j) i = true ∧ oXY X Y (s 0) (s (j + 1)) i = false := by
          intro d
          induction d with
          | zero =>
            intro k _ hk o1
            rw [show m - 1 = k from by omega, o1] at last
            cases last
          | succ d ih =>
            intro k hk1 hk o1
            cases o2 : oXY X Y (s 0) (s (k + 1)) i with
            | true => exact ih (k + 1) (by omega) (by omega) o2
            | false => exact ⟨k, hk1, by omega, o1, o2⟩
        obtain ⟨j, j1, j2, o1, o2⟩ := sw (m - 2) 1 (Nat.le_refl _) (by omega) first
        have sj := hs j (by omega)
        have sj1 := hs (j + 1) (by omega)
        have nj := ns j (by omega)
        have nj1 := ns (j + 1) (by omega)
        have d1 : s 0 ≠ s j := fun e => by have := hinj 0 j (by omega) (by omega) e; omega
        have d2 : s 0 ≠ s (j + 1) := fun e => by have := hinj 0 (j + 1) (by omega) (by omega) e; omega
        have d3 : s j ≠ s (j + 1) := fun e => by have := hinj j (j + 1) (by omega) (by omega) e; omega
        have o3 : oXY X Y (s j) (s (j + 1)) i = true := (hb j (by omega)).2.2 i hi nj nj1
        have o4 : oXY X Y (s 0) (s j) (s (j + 1)) = true := bt (fun e => th3 C (a := s 0) (b := s j) (c := s (j + 1)) (p := i) o1 o3 o2 e s0 sj sj1 hi d1 d2 (Ne.symm n0) d3 (Ne.symm nj) (Ne.symm nj1))
        have o5 : oXY X Y (s (j + 1)) (s 0) i = true := by rw [cr3 C s0 sj1 hi d2 (Ne.symm n0) (Ne.symm nj1), o2]; rfl
        have := noin_any h hi hno s0 sj sj1 d1 d2 d3
        rw [wit_of n0 nj nj1 (o1.trans o4.symm) (o3.trans o4.symm) (o5.trans o4.symm)] at this
        cases this
theorem r_isOfHull (h : RB g n X Y) (hN : Near X Y n) {p : Nat} (hp : p < n) : zev mX12_isOfHull 0 [.ref 250, .int (nI p)] g = some (some (.int (bI (cdec (NoIn X Y n p)))), g) := by
  have hn := h.1
  rw [uX12_isOfHull_0]
  have in3 : ∀ a b, a < n → b < n → zev mX12_isOfHull 27 [.ref 250, .int (nI p), .int (nI a), .int (nI b), .int (nI (b + 1))] g = cond (cdec (∀ c, b + 1 ≤ c → c < n → wit (oXY X Y) p a b c = false)) (zev mX12_isOfHull 14 [.ref 250, .int (nI p), .int (nI a), .int (nI (b + 1))] g) (some (some (.int 0), g)) := by
    intro a b ha hb
    refine zals (F := fun c => zev mX12_isOfHull 27 [.ref 250, .int (nI p), .int (nI a), .int (nI b), .int (nI c)] g) (lo := b + 1) (n := n) (fun c h1 h2 => ?_) ?_ (n - (b + 1)) (b + 1) (Nat.le_refl _) (by omega)
    · rw [uX12_isOfHull_27, r_points h, zaI_some, nle_d hn h2, r_isWithin h hN hp ha hb h2, zaI_some, bI_0, cdec_bf]
      simp only [nI_1]
      cases wit (oXY X Y) p a b c <;> rfl
    · rw [uX12_isOfHull_27, r_points h, zaI_some, le_d hn, nI_1]; rfl
  have in2 : ∀ a, a < n → zev mX12_isOfHull 14 [.ref 250, .int (nI p), .int (nI a), .int (nI (a + 1))] g = cond (cdec (∀ b, a + 1 ≤ b → b < n → ∀ c, b + 1 ≤ c → c < n → wit (oXY X Y) p a b c = false)) (zev mX12_isOfHull 2 [.ref 250, .int (nI p), .int (nI (a + 1))] g) (some (some (.int 0), g)) := by
    intro a ha
    refine zals (F := fun b => zev mX12_isOfHull 14 [.ref 250, .int (nI p), .int (nI a), .int (nI b)] g) (lo := a + 1) (n := n) (fun b h1 h2 => ?_) ?_ (n - (a + 1)) (a + 1) (Nat.le_refl _) (by omega)
    · rw [uX12_isOfHull_14, r_points h, zaI_some, nle_d hn h2]
      simp only [nI_1]
      exact in3 a b ha h2
    · rw [uX12_isOfHull_14, r_points h, zaI_some, le_d hn, nI_1]; rfl
  have all := zals (F := fun a => zev mX12_isOfHull 2 [.ref 250, .int (nI p), .int (nI a)] g) (R0 := some (some (.int 0), g)) (R1 := some (some (.int 1), g)) (lo := 0) (n := n) (Q := fun a => ∀ b, a + 1 ≤ b → b < n → ∀ c, b + 1 ≤ c → c < n → wit (oXY X Y) p a b c = false) (fun a _ h2 => by
    rw [uX12_isOfHull_2, r_points h, zaI_some, nle_d hn h2]
    simp only [nI_1]
    exact in2 a h2) (by rw [uX12_isOfHull_2, r_points h, zaI_some, le_d hn]; rfl) n 0 (Nat.le_refl _) (by omega)
  refine Eq.trans all ?_
  by_cases q : NoIn X Y n p
  · rw [cdec_t q, cdec_t (q := ∀ j, 0 ≤ j → j < n → ∀ b, j + 1 ≤ b → b < n → ∀ c, b + 1 ≤ c → c < n → wit (oXY X Y) p j b c = false) (fun a _ _ b h1 _ c h2 h3 => q a b c (by omega) (by omega) h3)]
    rfl
  · rw [cdec_f q, cdec_f (q := ∀ j, 0 ≤ j → j < n → ∀ b, j + 1 ≤ b → b < n → ∀ c, b + 1 ≤ c → c < n → wit (oXY X Y) p j b c = false) (fun k => q (fun a b c h1 h2 h3 => k a (by omega) (by omega) b (by omega) (by omega) c (by omega) h3))]
    rfl
end
