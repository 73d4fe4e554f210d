/-! Flips; a flip at the extreme point makes a net with one edge less there. -/
def Flp (M : Nat → Nat → Prop) (a b c d : Nat) : Nat → Nat → Prop := fun x y => (M x y ∧ ¬ ((x = a ∧ y = b) ∨ (x = b ∧ y = a))) ∨ ((x = c ∧ y = d) ∨ (x = d ∧ y = c))
def Step (o : Nat → Nat → Nat → Bool) (l : List Nat) (M M' : Nat → Nat → Prop) : Prop := ∃ a b c d, M a b ∧ c ∈ l ∧ d ∈ l ∧ c ≠ d ∧ crs o c d a b = true ∧ (∀ u v, M u v → crs o c d u v = true → (u = a ∧ v = b) ∨ (u = b ∧ v = a)) ∧ ∀ x y, M' x y ↔ Flp M a b c d x y
def FS (o : Nat → Nat → Nat → Bool) (l : List Nat) (M M' : Nat → Nat → Prop) : Prop := ∀ Q : (Nat → Nat → Prop) → Prop, Q M → (∀ N N', Net o l N → Net o l N' → Q N → Step o l N N' → Q N') → Q M'
def FP (o : Nat → Nat → Nat → Bool) (l : List Nat) (M : Nat → Nat → Prop) : Prop := ∀ a b, M a b → (∃ q, q ∈ l ∧ q ≠ a ∧ q ≠ b ∧ o a b q = true) → ∃ w, w ∈ l ∧ w ≠ a ∧ w ≠ b ∧ o a b w = true ∧ M a w ∧ M b w ∧ ∀ q, q ∈ l → wit o q a b w = false
section
variable {P : Nat → Prop} {o : Nat → Nat → Nat → Bool} {p : Nat} {S : List Nat} {M : Nat → Nat → Prop}
theorem wit_rot2 (C : CC P o) {q a b c : Nat} (pa : P a) (pb : P b) (pc : P c) (nab : a ≠ b) (nac : a ≠ c) (nbc : b ≠ c) : wit o q c a b = wit o q a b c :=
  (wit_rot C pc pa pb nac.symm nbc.symm nab).symm
theorem wit_p2 (C : CC P o) {q a b c : Nat} (pq : P q) (pa : P a) (pb : P b) (pc : P c) (nab : a ≠ b) (nac : a ≠ c) (nbc : b ≠ c) : wit o q a c b = wit o q a b c := by
  rw [← wit_rot C pa pb pc nab nac nbc, ← wit_sw C pq pb pc pa nbc nab.symm nac.symm, wit_rot C pa pc pb nac nab nbc.symm]
theorem wit_p3 (C : CC P o) {q a b c : Nat} (pq : P q) (pa : P a) (pb : P b) (pc : P c) (nab : a ≠ b) (nac : a ≠ c) (nbc : b ≠ c) : wit o q c b a = wit o q a b c := by
  rw [wit_sw C pq pb pc pa nbc nab.symm nac.symm, wit_rot C pa pb pc nab nac nbc]
/-- all that stands where d can be flipped away from p, between a and b -/
def FlA (P : Nat → Prop) (o : Nat → Nat → Nat → Bool) (p : Nat) (S : List Nat) (M : Nat → Nat → Prop) (a d b : Nat) : Prop := PSM P o p S M ∧ Nx o M p a d ∧ Nx o M p d b ∧ o a d b = true
theorem fa_all {a d b : Nat} (A : FlA P o p S M a d b) : (a ∈ S ∧ d ∈ S ∧ b ∈ S) ∧ (P p ∧ P a ∧ P d ∧ P b) ∧ (p ≠ a ∧ p ≠ d ∧ p ≠ b ∧ a ≠ d ∧ a ≠ b ∧ d ≠ b) ∧ (o p a d = true ∧ o p a b = true ∧ o p d b = true ∧ o a d b = true) ∧ (M p a ∧ M p d ∧ M p b ∧ M a d ∧ M d b) ∧ (∀ q, q ∈ p :: S → wit o q p a d = false) ∧ (∀ q, q ∈ p :: S → wit o q p d b = false) := by
  obtain ⟨H, h1, h2, h3⟩ := A
  have sa := ps_S H h1.1
  have sd := ps_S H h2.1
  have sb := ps_S H h2.2.1
  have t1 := nx_tri H h1
  have t2 := nx_tri H h2
  have nab := ps_ne H sa.1 sd.1 h1.2.2.1 h1.2.2.2.1 h2.2.2.2.1
  have kab := ps_tr H sa.1 sd.1 sb.1 h1.2.2.1 h2.2.2.1 h1.2.2.2.1 h2.2.2.2.1
  exact ⟨⟨sa.1, sd.1, sb.1⟩, ⟨ps_p H, sa.2.2.1, sd.2.2.1, sb.2.2.1⟩, ⟨sa.2.1, sd.2.1, sb.2.1, h1.2.2.1, nab, h2.2.2.1⟩, ⟨h1.2.2.2.1, kab, h2.2.2.2.1, h3⟩, ⟨h1.1, h2.1, h2.2.1, t1.1, t2.1⟩, t1.2, t2.2⟩
theorem fa_x {a d b : Nat} (A : FlA P o p S M a d b) : crs o a b p d = true := by
  obtain ⟨_, ⟨pp, pa, pd, pb⟩, ⟨npa, npd, npb, nad, nab, ndb⟩, ⟨kad, kab, kdb, h⟩, _, _, _⟩ := fa_all A
  have C := A.1.1
  refine crs_of npa.symm nad npb.symm ndb.symm ?_ ?_
  · rw [cr1 C pp pa pb npa npb nab, cr4 C pa pd pb nad nab ndb, kab, h]; rfl
  · rw [cr4 C pp pa pd npa npd nad, kad, kdb]
/-- ab crosses pd alone -/
theorem fa_only {a d b : Nat} (A : FlA P o p S M a d b) : ∀ u v, M u v → crs o a b u v = true → (u = p ∧ v = d) ∨ (u = d ∧ v = p) := by
  obtain ⟨⟨sa, sd, sb⟩, ⟨pp, pa, pd, pb⟩, ⟨npa, npd, npb, nad, nab, ndb⟩, ⟨kad, kab, kdb, h⟩, ⟨ha, hd, hb, had, hdb⟩, em1, em2⟩ := fa_all A
  obtain ⟨H, h1, h2, h3⟩ := A
  have C := H.1
  have N := H.2.2.2.2
  have key : ∀ u v, M u v → crs o u v a b = true → (u = p ∨ u = d ∨ (u ≠ p ∧ u ≠ d ∧ v ≠ p ∧ v ≠ d)) → (u = p ∧ v = d) ∨ (u = d ∧ v = p) := by
    intro u v huv hx hcase
    obtain ⟨ul, vl, nuv, hvu⟩ := N.1 u v huv
    obtain ⟨nua, nub, nva, nvb⟩ := crs_d hx
    have pu := H.2.1 u ul
    have pv := H.2.1 v vl
    rcases hcase with e | e | ⟨e1, e2, e3, e4⟩
    · subst e
      by_cases e2 : v = d
      · exact Or.inl ⟨rfl, e2⟩
      · have j1 : o u a v = true := bt (fun e => tw6 C kab hx e)
        have j2 : o u v b = true := bt (fun e => tw7 C kab hx e)
        rcases ps_tot H (ps_S H huv).1 sd e2 with k | k
        · exact (h1.2.2.2.2 v huv nva e2 j1 k).elim
        · exact (h2.2.2.2.2 v huv e2 nvb k j2).elim
    · subst e
      by_cases e2 : v = p
      · exact Or.inr ⟨rfl, e2⟩
      · exact (tf1 C kad kab kdb h hx (net_n N huv ha) (net_n N huv hb) (em1 v vl) (em2 v vl)).elim
    · exact (tf2 C kad kab kdb h hx (net_n N huv ha) (net_n N huv had) (net_n N huv hd) (net_n N huv hdb) (net_n N huv hb) (em1 u ul) (em2 u ul) (em1 v vl) (em2 v vl)).elim
  intro u v huv hx
  rw [crs_sw] at hx
  obtain ⟨ul, vl, nuv, hvu⟩ := N.1 u v huv
  have pu := H.2.1 u ul
  have pv := H.2.1 v vl
  by_cases e1 : u = p
  · exact key u v huv hx (Or.inl e1)
  by_cases e2 : u = d
  · exact key u v huv hx (Or.inr (Or.inl e2))
  have hy : crs o v u a b = true := by rw [crs_l C pu pv pa pb nuv]; exact hx
  by_cases e3 : v = p
  · rcases key v u hvu hy (Or.inl e3) with ⟨r1, r2⟩ | ⟨r1, r2⟩
    · exact Or.inr ⟨r2, r1⟩
    · exact Or.inl ⟨r2, r1⟩
  by_cases e4 : v = d
  · rcases key v u hvu hy (Or.inr (Or.inl e4)) with ⟨r1, r2⟩ | ⟨r1, r2⟩
    · exact Or.inr ⟨r2, r1⟩
    · exact Or.inl ⟨r2, r1⟩
  exact key u v huv hx (Or.inr (Or.inr ⟨e1, e2, e3, e4⟩))
theorem crs_self (a b : Nat) : crs o a b a b = false := by simp [crs]
theorem crs_self2 (a b : Nat) : crs o a b b a = false := by simp [crs]
theorem fa_net {a d b : Nat} (A : FlA P o p S M a d b) : Net o (p :: S) (Flp M p d a b) := by
  have hx0 := fa_x A
  have only := fa_only A
  obtain ⟨⟨sa, sd, sb⟩, ⟨pp, pa, pd, pb⟩, ⟨npa, npd, npb, nad, nab, ndb⟩, ⟨kad, kab, kdb, h⟩, ⟨ha, hd, hb, had, hdb⟩, em1, em2⟩ := fa_all A
  obtain ⟨H, h1, h2, h3⟩ := A
  have C := H.1
  have N := H.2.2.2.2
  have la : a ∈ p :: S := List.mem_cons_of_mem _ sa
  have lb : b ∈ p :: S := List.mem_cons_of_mem _ sb
  have ncr : ∀ u v, M u v → ¬ ((u = p ∧ v = d) ∨ (u = d ∧ v = p)) → crs o a b u v = false := fun u v huv hn => bf (fun hx => hn (only u v huv hx))
  refine ⟨?_, ?_, ?_⟩
  · intro x y hxy
    rcases hxy with ⟨hm, hn⟩ | ⟨rfl, rfl⟩ | ⟨rfl, rfl⟩
    · obtain ⟨xl, yl, n, s⟩ := N.1 x y hm
      refine ⟨xl, yl, n, Or.inl ⟨s, fun q => hn ?_⟩⟩
      rcases q with ⟨q1, q2⟩ | ⟨q1, q2⟩
      · exact Or.inr ⟨q2, q1⟩
      · exact Or.inl ⟨q2, q1⟩
    · exact ⟨la, lb, nab, Or.inr (Or.inr ⟨rfl, rfl⟩)⟩
    · exact ⟨lb, la, nab.symm, Or.inr (Or.inl ⟨rfl, rfl⟩)⟩
  · intro x y u v hxy huv
    have sym : ∀ s t, M s t → ¬ ((s = p ∧ t = d) ∨ (s = d ∧ t = p)) → crs o b a s t = false := fun s t hst hn => by
      obtain ⟨sl, tl, n, _⟩ := N.1 s t hst
      rw [crs_l C pa pb (H.2.1 s sl) (H.2.1 t tl) nab]
      exact ncr s t hst hn
    rcases hxy with ⟨hm, hn⟩ | ⟨rfl, rfl⟩ | ⟨rfl, rfl⟩
    · rcases huv with ⟨hm2, hn2⟩ | ⟨rfl, rfl⟩ | ⟨rfl, rfl⟩
      · exact N.2.1 x y u v hm hm2
      · rw [crs_sw]; exact ncr x y hm hn
      · rw [crs_sw]; exact sym x y hm hn
    · rcases huv with ⟨hm2, hn2⟩ | ⟨rfl, rfl⟩ | ⟨rfl, rfl⟩
      · exact ncr u v hm2 hn2
      · exact crs_self _ _
      · exact crs_self2 _ _
    · rcases huv with ⟨hm2, hn2⟩ | ⟨rfl, rfl⟩ | ⟨rfl, rfl⟩
      · exact sym u v hm2 hn2
      · exact crs_self2 _ _
      · exact crs_self _ _
  · intro x y xl yl nxy hun
    have mab : Flp M p d a b a b := Or.inr (Or.inl ⟨rfl, rfl⟩)
    have keep : ∀ u v, M u v → ¬ ((u = p ∧ v = d) ∨ (u = d ∧ v = p)) → Flp M p d a b u v := fun u v h1 h2 => Or.inl ⟨h1, h2⟩
    have mpa : Flp M p d a b p a := keep p a ha (fun q => by rcases q with ⟨_, q⟩ | ⟨q, _⟩; exact nad q; exact npd q)
    have mpb : Flp M p d a b p b := keep p b hb (fun q => by rcases q with ⟨_, q⟩ | ⟨q, _⟩; exact ndb q.symm; exact npd q)
    have mad : Flp M p d a b a d := keep a d had (fun q => by rcases q with ⟨q, _⟩ | ⟨q, _⟩; exact npa q.symm; exact nad q)
    have mdb : Flp M p d a b d b := keep d b hdb (fun q => by rcases q with ⟨q, _⟩ | ⟨_, q⟩; exact npd q.symm; exact npb q.symm)
    have px := H.2.1 x xl
    have py := H.2.1 y yl
    by_cases c1 : (x = a ∧ y = b) ∨ (x = b ∧ y = a)
    · exact Or.inr c1
    by_cases c2 : (x = p ∧ y = d) ∨ (x = d ∧ y = p)
    · exfalso
      have := hun a b mab
      rcases c2 with ⟨rfl, rfl⟩ | ⟨rfl, rfl⟩
      · rw [crs_sw, hx0] at this; cases this
      · rw [crs_l C py px pa pb nxy.symm, crs_sw, hx0] at this; cases this
    refine Or.inl ⟨N.2.2 x y xl yl nxy (fun u v huv => ?_), c2⟩
    by_cases c3 : (u = p ∧ v = d) ∨ (u = d ∧ v = p)
    · have key : ∀ x y, x ∈ p :: S → y ∈ p :: S → x ≠ y → ¬ ((x = a ∧ y = b) ∨ (x = b ∧ y = a)) → (∀ c e, Flp M p d a b c e → crs o x y c e = false) → crs o x y p d = true → (x = a ∨ x = b ∨ (x ≠ a ∧ x ≠ b ∧ y ≠ a ∧ y ≠ b)) → False := by
        intro x y xl yl nxy c1 hun hx hcase
        have px := H.2.1 x xl
        have py := H.2.1 y yl
        obtain ⟨nxp, nxd, nyp, nyd⟩ := crs_d hx
        rcases hcase with e | e | ⟨e1, e2, e3, e4⟩
        · subst e
          have nyb : y ≠ b := fun e => c1 (Or.inl ⟨rfl, e⟩)
          exact tf3 C kad kab kdb h hx (hun p b mpb) (hun d b mdb) (em2 y yl)
        · subst e
          have nya : y ≠ a := fun e => c1 (Or.inr ⟨rfl, e⟩)
          exact tf4 C kad kab kdb h hx (hun p a mpa) (hun a d mad) (em1 y yl)
        · exact tf5 C kad kab kdb h hx (hun a b mab) (hun p a mpa) (hun a d mad) (hun d b mdb) (hun p b mpb) (em1 x xl) (em2 x xl) (em1 y yl) (em2 y yl)
      have go : crs o x y p d = true → False := by
        intro hx
        have hyx : crs o y x p d = true := by rw [crs_l C px py pp pd nxy]; exact hx
        have hun2 : ∀ c e, Flp M p d a b c e → crs o y x c e = false := by
          intro c e hce
          have hP : P c ∧ P e := by
            rcases hce with ⟨hm, _⟩ | ⟨rfl, rfl⟩ | ⟨rfl, rfl⟩
            · exact ⟨H.2.1 c (N.1 c e hm).1, H.2.1 e (N.1 c e hm).2.1⟩
            · exact ⟨pa, pb⟩
            · exact ⟨pb, pa⟩
          rw [crs_l C px py hP.1 hP.2 nxy]
          exact hun c e hce
        have c1' : ¬ ((y = a ∧ x = b) ∨ (y = b ∧ x = a)) := fun q => c1 (by
          rcases q with ⟨q1, q2⟩ | ⟨q1, q2⟩
          · exact Or.inr ⟨q2, q1⟩
          · exact Or.inl ⟨q2, q1⟩)
        by_cases e1 : x = a
        · exact key x y xl yl nxy c1 hun hx (Or.inl e1)
        by_cases e2 : x = b
        · exact key x y xl yl nxy c1 hun hx (Or.inr (Or.inl e2))
        by_cases e3 : y = a
        · exact key y x yl xl nxy.symm c1' hun2 hyx (Or.inl e3)
        by_cases e4 : y = b
        · exact key y x yl xl nxy.symm c1' hun2 hyx (Or.inr (Or.inl e4))
        exact key x y xl yl nxy c1 hun hx (Or.inr (Or.inr ⟨e1, e2, e3, e4⟩))
      rcases c3 with ⟨rfl, rfl⟩ | ⟨rfl, rfl⟩
      · exact bf go
      · rw [crs_r C px py pp pd npd]
        exact bf go
    · exact hun u v (keep u v huv c3)
theorem fa_step {a d b : Nat} (A : FlA P o p S M a d b) : Step o (p :: S) M (Flp M p d a b) := by
  have hx0 := fa_x A
  have only := fa_only A
  obtain ⟨⟨sa, sd, sb⟩, ⟨pp, pa, pd, pb⟩, ⟨npa, npd, npb, nad, nab, ndb⟩, _, ⟨ha, hd, hb, had, hdb⟩, _, _⟩ := fa_all A
  exact ⟨p, d, a, b, hd, List.mem_cons_of_mem _ sa, List.mem_cons_of_mem _ sb, nab, hx0, only, fun x y => Iff.rfl⟩
noncomputable def dgr (M : Nat → Nat → Prop) (p : Nat) (S : List Nat) : Nat := S.countP (fun x => cdec (M p x))
theorem fa_deg {a d b : Nat} (A : FlA P o p S M a d b) : dgr (Flp M p d a b) p S < dgr M p S := by
  obtain ⟨⟨sa, sd, sb⟩, ⟨pp, pa, pd, pb⟩, ⟨npa, npd, npb, nad, nab, ndb⟩, _, ⟨ha, hd, hb, had, hdb⟩, _, _⟩ := fa_all A
  refine countP_lt' S (fun x hx h => ?_) ⟨d, sd, cdec_t hd, cdec_f (fun h => ?_)⟩
  · rcases cdec_of h with ⟨h1, _⟩ | ⟨e, _⟩ | ⟨e, _⟩
    · exact cdec_t h1
    · exact (npa e).elim
    · exact (npb e).elim
  · rcases h with ⟨_, h1⟩ | ⟨e, _⟩ | ⟨e, _⟩
    · exact h1 (Or.inl ⟨rfl, rfl⟩)
    · exact npa e
    · exact npb e
end
