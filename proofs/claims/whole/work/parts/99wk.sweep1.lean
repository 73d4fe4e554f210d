/-! Sweeps: one advance alone, and at most 13. -/
section
variable {X Y : Nat → Int} {n w : Nat}
theorem nxp_uq {P a b b' : Nat} (h : NxP X Y n P a b) (h' : NxP X Y n P a b') : b = b' := by
  refine Classical.byContradiction (fun z => ?_)
  have e1 := h.2.2.2 b' h'.1 h'.2.1 h'.2.2.1 (Ne.symm z)
  have e2 := h'.2.2.2 b h.1 h.2.1 h.2.2.1 z
  exact ahd_irr (ahd_tr e1 e2)
theorem nxp_pred {P a a' b : Nat} (hd : Dist X Y n) (ha : a < n) (ha' : a' < n) (pa : P.testBit a = true) (pa' : P.testBit a' = true) (h : NxP X Y n P a b) (h' : NxP X Y n P a' b) : a = a' := by
  refine Classical.byContradiction (fun z => ?_)
  rcases ahd_tot (hd a a' ha ha' z) with q | q
  · by_cases e : a' = b
    · subst e; exact ahd_irr h'.2.2.1
    · exact ahd_irr (ahd_tr h'.2.2.1 (h.2.2.2 a' ha' pa' q e))
  · by_cases e : a = b
    · subst e; exact ahd_irr h.2.2.1
    · exact ahd_irr (ahd_tr h.2.2.1 (h'.2.2.2 a ha pa q e))
theorem inp_uq (hG : GP X Y n) (hn : n ≤ 9) (hw : w < 2 ^ 36) (N : Net (oXY X Y) (List.range n) (Em w)) {a b c c' : Nat} (ha : a < n) (hb : b < n) (hab : ahd X Y a b) (h : InP X Y n w a b c) (h' : InP X Y n w a b c') : c = c' := by
  have ne : ∀ x y, ahd X Y x y → x ≠ y := fun x y q e => by rw [e] at q; exact ahd_irr q
  exact tri_uq hG hn hw N ha hb h.1 h'.1 (ne _ _ hab) (ne _ _ h.2.1) (Ne.symm (ne _ _ h.2.2.1)) (ne _ _ h'.2.1) (Ne.symm (ne _ _ h'.2.2.1)) h.2.2.2.2 h'.2.2.2.2 (h.2.2.2.1.trans h'.2.2.2.1.symm)
theorem advA_uq (hG : GP X Y n) (hn : n ≤ 9) (hw : w < 2 ^ 36) (N : Net (oXY X Y) (List.range n) (Em w)) {P a : Nat} {r r' : Nat × Nat × Nat} (ha : a < n) (h : AdvA X Y n w P a r) (h' : AdvA X Y n w P a r') : r = r' := by
  obtain ⟨b, nb, h⟩ := h
  obtain ⟨b', nb', h'⟩ := h'
  have := nxp_uq nb nb'
  subst this
  rcases h with ⟨c, ic, e⟩ | ⟨no, d, nd, _, _, e⟩
  · rcases h' with ⟨c', ic', e'⟩ | ⟨no', _⟩
    · rw [e, e', inp_uq hG hn hw N ha nb.1 nb.2.2.1 ic ic']
    · exact absurd ic (no' c)
  · rcases h' with ⟨c', ic', _⟩ | ⟨no', d', nd', _, _, e'⟩
    · exact absurd ic' (no c')
    · rw [e, e', nxp_uq nd nd']
theorem adv_uq (hG : GP X Y n) (hd : Dist X Y n) (hn : n ≤ 9) (hw : w < 2 ^ 36) (N : Net (oXY X Y) (List.range n) (Em w)) {P : Nat} {r r' : Nat × Nat × Nat} (h : Adv X Y n w P r) (h' : Adv X Y n w P r') : r = r' := by
  obtain ⟨a, ha, pa, aa, mn⟩ := h
  obtain ⟨a', ha', pa', aa', mn'⟩ := h'
  by_cases e : a = a'
  · subst e; exact advA_uq hG hn hw N ha aa aa'
  · rcases ahd_tot (hd a a' ha ha' e) with q | q
    · exact absurd aa (mn' a ha pa q r)
    · exact absurd aa' (mn a' ha' pa' q r')
/-! slopes -/
theorem tr_first (hG : GP X Y n) {a p q r : Nat} (ha : a < n) (hp : p < n) (hq : q < n) (hr : r < n) (npr : p ≠ r) (ap : ahd X Y a p) (aq : ahd X Y a q) (ar : ahd X Y a r) (h1 : oXY X Y a p q = true) (h2 : oXY X Y a q r = true) : oXY X Y a p r = true := by
  have ne : ∀ y, ahd X Y a y → a ≠ y := fun y z e => by rw [← e] at z; exact ahd_irr z
  have d := hG a p r ha hp hr (ne p ap) (ne r ar) npr
  have e1 := of_decide_eq_true h1
  have e2 := of_decide_eq_true h2
  unfold dt at e1 e2 d
  unfold ahd at ap aq ar
  refine decide_eq_true ?_
  unfold dt
  have := half_tr (ax := X a - X p) (ay := Y a - Y p) (bx := X a - X q) (b_y := Y a - Y q) (cx := X a - X r) (cy := Y a - Y r) (by omega) (by omega) (by omega) (by grind) (by grind) (by intro z; apply d; grind)
  grind
theorem tr_last (hG : GP X Y n) {a p q r : Nat} (ha : a < n) (hp : p < n) (hq : q < n) (hr : r < n) (npr : p ≠ r) (ap : ahd X Y p a) (aq : ahd X Y q a) (ar : ahd X Y r a) (h1 : oXY X Y a p q = true) (h2 : oXY X Y a q r = true) : oXY X Y a p r = true := by
  have ne : ∀ y, ahd X Y y a → a ≠ y := fun y z e => by rw [← e] at z; exact ahd_irr z
  have d := hG a p r ha hp hr (ne p ap) (ne r ar) npr
  have e1 := of_decide_eq_true h1
  have e2 := of_decide_eq_true h2
  unfold dt at e1 e2 d
  unfold ahd at ap aq ar
  refine decide_eq_true ?_
  unfold dt
  have := half_tr (ax := X p - X a) (ay := Y p - Y a) (bx := X q - X a) (b_y := Y q - Y a) (cx := X r - X a) (cy := Y r - Y a) (by omega) (by omega) (by omega) (by grind) (by grind) (by intro z; apply d; grind)
  grind
/-- one behind, one ahead -/
theorem tr_mid (hG : GP X Y n) {h p q r : Nat} (hh : h < n) (hp : p < n) (hq : q < n) (hr : r < n) (npr : p ≠ r) (ap : ahd X Y p h) (aq : ahd X Y h q) (ar : ahd X Y h r) (h1 : oXY X Y h q p = true) (h2 : oXY X Y h q r = true) : oXY X Y h r p = true := by
  have nq : h ≠ q := fun e => by rw [← e] at aq; exact ahd_irr aq
  have nr : h ≠ r := fun e => by rw [← e] at ar; exact ahd_irr ar
  have np : h ≠ p := fun e => by rw [← e] at ap; exact ahd_irr ap
  have d := hG h r p hh hr hp nr np (Ne.symm npr)
  have e1 := of_decide_eq_true h1
  have e2 := of_decide_eq_true h2
  unfold dt at e1 e2 d
  unfold ahd at ap aq ar
  refine decide_eq_true ?_
  unfold dt
  have := half_tr (ax := X p - X h) (ay := Y p - Y h) (bx := X h - X q) (b_y := Y h - Y q) (cx := X h - X r) (cy := Y h - Y r) (by omega) (by omega) (by omega) (by grind) (by grind) (by intro z; apply d; grind)
  grind
theorem tr_mid2 (hG : GP X Y n) {h p q r : Nat} (hh : h < n) (hp : p < n) (hq : q < n) (hr : r < n) (npr : p ≠ r) (ap : ahd X Y h p) (aq : ahd X Y q h) (ar : ahd X Y r h) (h1 : oXY X Y h q p = true) (h2 : oXY X Y h q r = true) : oXY X Y h r p = true := by
  have nq : h ≠ q := fun e => by rw [← e] at aq; exact ahd_irr aq
  have nr : h ≠ r := fun e => by rw [← e] at ar; exact ahd_irr ar
  have np : h ≠ p := fun e => by rw [← e] at ap; exact ahd_irr ap
  have d := hG h r p hh hr hp nr np (Ne.symm npr)
  have e1 := of_decide_eq_true h1
  have e2 := of_decide_eq_true h2
  unfold dt at e1 e2 d
  unfold ahd at ap aq ar
  refine decide_eq_true ?_
  unfold dt
  have := half_tr (ax := X h - X p) (ay := Y h - Y p) (bx := X q - X h) (b_y := Y q - Y h) (cx := X r - X h) (cy := Y r - Y h) (by omega) (by omega) (by omega) (by grind) (by grind) (by intro z; apply d; grind)
  grind
end
