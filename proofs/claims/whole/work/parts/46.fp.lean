/-! Every edge of a net that has a point left of it has an empty triangle there; flips lead from each net to each other. -/
section
variable {P : Nat → Prop} {o : Nat → Nat → Nat → Bool} {p : Nat} {S : List Nat} {M : Nat → Nat → Prop}
/-- two edges at ab make an empty triangle with p or d alone -/
theorem fa_z {a d b : Nat} (A : FlA P o p S M a d b) {z : Nat} (zl : z ∈ p :: S) (nza : z ≠ a) (nzb : z ≠ b) (hza : M a z) (hzb : M b z) (em : ∀ q, q ∈ p :: S → wit o q a b z = false) : z = p ∨ z = d := by
  obtain ⟨⟨sa, sd, sb⟩, ⟨pp, pa, pd, pb⟩, ⟨npa, npd, npb, nad, nab, ndb⟩, ⟨kad, kab, kdb, h⟩, ⟨ha, hd, hb, had, hdb⟩, em1, em2⟩ := fa_all A
  obtain ⟨H, h1, h2, h3⟩ := A
  have C := H.1
  have N := H.2.2.2.2
  have pz := H.2.1 z zl
  by_cases nzp : z = p
  · exact Or.inl nzp
  by_cases nzd : z = d
  · exact Or.inr nzd
  exfalso
  have kabp : o a b p = true := (cr1 C pp pa pb npa npb nab).trans kab
  have kabd : o a b d = false := by rw [cr4 C pa pd pb nad nab ndb, h]; rfl
  have hap := (N.1 p a ha).2.2.2
  have hbp := (N.1 p b hb).2.2.2
  have hbd := (N.1 d b hdb).2.2.2
  rcases Bool.eq_false_or_eq_true (o a b z) with k | k
  · refine tf8 C (y := p) k kabp ?_ (em p List.mem_cons_self) (net_n N hza hbp) (net_n N hap hzb)
    rw [wit_rot C pp pa pb npa npb nab]
    exact bf (fun e => tf6 C kad kab kdb h e (em1 z zl) (em2 z zl))
  · refine tf9 C (y := d) k kabd ?_ (em d (List.mem_cons_of_mem _ sd)) (net_n N hza hbd) (net_n N had hzb)
    exact bf (fun e => tf7 C kad kab kdb h e (em1 z zl) (em2 z zl))
theorem fa_fp {a d b : Nat} (A : FlA P o p S M a d b) (hf : FP o (p :: S) (Flp M p d a b)) : FP o (p :: S) M := by
  have hz := @fa_z P o p S M a d b A
  obtain ⟨⟨sa, sd, sb⟩, ⟨pp, pa, pd, pb⟩, ⟨npa, npd, npb, nad, nab, ndb⟩, ⟨kad, kab, kdb, h⟩, ⟨ha, hd, hb, had, hdb⟩, em1, em2⟩ := fa_all A
  obtain ⟨H, h1, h2, h3⟩ := A
  have C := H.1
  have N := H.2.2.2.2
  have sym : ∀ {x y}, M x y → M y x := fun {x y} q => (N.1 x y q).2.2.2
  have la : a ∈ p :: S := List.mem_cons_of_mem _ sa
  have lb : b ∈ p :: S := List.mem_cons_of_mem _ sb
  have ld : d ∈ p :: S := List.mem_cons_of_mem _ sd
  have lp : p ∈ p :: S := List.mem_cons_self
  intro x y hxy hq
  by_cases c1 : x = p ∧ y = d
  · obtain ⟨rfl, rfl⟩ := c1
    exact ⟨b, lb, npb.symm, ndb.symm, kdb, hb, hdb, em2⟩
  by_cases c2 : x = d ∧ y = p
  · obtain ⟨rfl, rfl⟩ := c2
    exact ⟨a, la, nad, npa.symm, (cr2 C pp pa pd npa npd nad).trans kad, sym had, ha, fun q ql => by rw [wit_rot2 C pp pa pd npa npd nad]; exact em1 q ql⟩
  obtain ⟨xl, yl, nxy, hyx⟩ := N.1 x y hxy
  have px := H.2.1 x xl
  have py := H.2.1 y yl
  obtain ⟨w, wl, nwx, nwy, kw, hxw, hyw, em⟩ := hf x y (Or.inl ⟨hxy, fun q => by rcases q with q | q; exact c1 q; exact c2 q⟩) hq
  have pw := H.2.1 w wl
  rcases hxw with ⟨hxw, _⟩ | hab
  · rcases hyw with ⟨hyw, _⟩ | hab
    · exact ⟨w, wl, nwx, nwy, kw, hxw, hyw, em⟩
    · rcases hab with ⟨rfl, rfl⟩ | ⟨rfl, rfl⟩
      · -- y = a, w = b
        rcases hz xl nxy nwx.symm hyx (sym hxw) (fun q ql => by rw [wit_rot C px py pw nxy nwx.symm nwy.symm]; exact em q ql) with e | e
        · subst e
          exact ⟨d, ld, npd.symm, nad.symm, kad, hd, had, em1⟩
        · subst e
          rw [cr3 C py px pw nad nab ndb, h] at kw
          cases kw
      · -- y = b, w = a
        rcases hz xl nwx.symm nxy (sym hxw) hyx (fun q ql => by rw [wit_p3 C (H.2.1 q ql) px py pw nxy nwx.symm nwy.symm]; exact em q ql) with e | e
        · subst e
          rw [cr4 C pp pa pb npa npb nab, kab] at kw
          cases kw
        · subst e
          exact ⟨p, lp, npd, npb, (cr1 C pp pd pb npd npb ndb).trans kdb, sym hd, sym hb, fun q ql => by rw [wit_rot C pp pd pb npd npb ndb]; exact em2 q ql⟩
  · have hyw2 : M y w := by
      rcases hyw with ⟨hyw, _⟩ | hyw
      · exact hyw
      · exfalso
        rcases hab with ⟨e1, e2⟩ | ⟨e1, e2⟩ <;> rcases hyw with ⟨e3, e4⟩ | ⟨e3, e4⟩
        · exact nxy (e1.trans e3.symm)
        · exact nab (e4.symm.trans e2)
        · exact nab (e2.symm.trans e4)
        · exact nxy (e1.trans e3.symm)
    rcases hab with ⟨rfl, rfl⟩ | ⟨rfl, rfl⟩
    · -- x = a, w = b
      rcases hz yl nxy.symm nwy.symm hxy (sym hyw2) (fun q ql => by rw [wit_p2 C (H.2.1 q ql) px py pw nxy nwx.symm nwy.symm]; exact em q ql) with e | e
      · subst e
        rw [cr3 C pp px pw npa npb nab, kab] at kw
        cases kw
      · subst e
        exact ⟨p, lp, npa, npd, (cr1 C pp pa pd npa npd nad).trans kad, sym ha, sym hd, fun q ql => by rw [wit_rot C pp pa pd npa npd nad]; exact em1 q ql⟩
    · -- x = b, w = a
      rcases hz yl nwy.symm nxy.symm (sym hyw2) hxy (fun q ql => by rw [wit_rot2 C px py pw nxy nwx.symm nwy.symm]; exact em q ql) with e | e
      · subst e
        exact ⟨d, ld, ndb, npd.symm, (cr2 C pp pd pb npd npb ndb).trans kdb, sym hdb, hd, fun q ql => by rw [wit_rot2 C pp pd pb npd npb ndb]; exact em2 q ql⟩
      · subst e
        rw [cr5 C pw py px nad nab ndb, h] at kw
        cases kw
/-- where none can be flipped away at p -/
theorem nf_fp (H : PSM P o p S M) (hn : NoFl o M p) (hf : FP o S (fun x y => M x y ∧ x ≠ p ∧ y ≠ p)) : FP o (p :: S) M := by
  have C := H.1
  have N := H.2.2.2.2
  have pp := ps_p H
  have sym : ∀ {x y}, M x y → M y x := fun {x y} q => (N.1 x y q).2.2.2
  intro x y hxy hq
  obtain ⟨xl, yl, nxy, hyx⟩ := N.1 x y hxy
  obtain ⟨q, ql, nqx, nqy, kq⟩ := hq
  by_cases ex : x = p
  · subst ex
    have sy := ps_S H hxy
    have sq : q ∈ S := by
      rcases List.mem_cons.mp ql with e | e
      · exact (nqx e).elim
      · exact e
    obtain ⟨w, hw, nwy, kw, hmin⟩ := ps_next H sy.1 ⟨q, sq, nqy, kq⟩
    have sw := ps_S H hw
    have t := nx_tri H (a := y) (b := w) ⟨hxy, hw, nwy.symm, kw, fun c hc m1 m2 j1 j2 => ps_lt H hw hc (hmin c hc m1 m2 j1) j2 m2.symm⟩
    exact ⟨w, List.mem_cons_of_mem _ sw.1, sw.2.1.symm, nwy, kw, hw, t.1, t.2⟩
  by_cases ey : y = p
  · subst ey
    have sx := ps_S H hyx
    have sq : q ∈ S := by
      rcases List.mem_cons.mp ql with e | e
      · exact (nqy e).elim
      · exact e
    have eq := ps_P H sq
    have kq2 : o y q x = true := (cr1 C sx.2.2.1 pp eq.1 sx.2.1.symm nqx.symm eq.2).trans kq
    obtain ⟨w, hw, nwx, kw, hmax⟩ := ps_prev H sx.1 ⟨q, sq, nqx, kq2⟩
    have sw := ps_S H hw
    have t := nx_tri H (a := w) (b := x) ⟨hw, hyx, nwx, kw, fun c hc m1 m2 j1 j2 => ps_lt H hw hc j1 (hmax c hc m2 m1 j2) m1.symm⟩
    exact ⟨w, List.mem_cons_of_mem _ sw.1, nwx, sw.2.1.symm, (cr2 C pp sw.2.2.1 sx.2.2.1 sw.2.1 sx.2.1 nwx).trans kw, sym t.1, hw, fun q ql => by rw [wit_rot2 C pp sw.2.2.1 sx.2.2.1 sw.2.1 sx.2.1 nwx]; exact t.2 q ql⟩
  have sx : x ∈ S := by
    rcases List.mem_cons.mp xl with e | e
    · exact (ex e).elim
    · exact e
  have sy : y ∈ S := by
    rcases List.mem_cons.mp yl with e | e
    · exact (ey e).elim
    · exact e
  have px := (ps_P H sx).1
  have py := (ps_P H sy).1
  have npx := (ps_P H sx).2
  have npy := (ps_P H sy).2
  by_cases hS : ∃ q, q ∈ S ∧ q ≠ x ∧ q ≠ y ∧ o x y q = true
  · obtain ⟨w, sw, nwx, nwy, kw, hxw, hyw, em⟩ := hf x y ⟨hxy, ex, ey⟩ hS
    have ew := ps_P H sw
    have pw := ew.1
    have npw := ew.2
    refine ⟨w, List.mem_cons_of_mem _ sw, nwx, nwy, kw, hxw.1, hyw.1, fun q ql => ?_⟩
    rcases List.mem_cons.mp ql with e | e
    · subst e
      refine bf (fun hw => tp1 C (w := w) ?_ hw)
      unfold ccX3
      have e1 := H.2.2.2.1 x y w sx sy sw nxy nwx.symm nwy.symm
      have e2 := H.2.2.2.1 w y x sw sy sx nwy nwx nxy.symm
      rw [cr4 C pp px pw npx npw nwx.symm, cr4 C pp py pw npy npw nwy.symm, cr4 C pp px py npx npy nxy] at e2
      revert e1 e2
      cases o q x y <;> cases o q x w <;> cases o q y w <;> simp
    · exact em q e
  · have hqp : q = p := by
      rcases List.mem_cons.mp ql with e | e
      · exact e
      · exact (hS ⟨q, e, nqx, nqy, kq⟩).elim
    subst hqp
    have hR : ∀ u, u ∈ S → u ≠ x → u ≠ y → o x y u = false := fun u hu n1 n2 => bf (fun e => hS ⟨u, hu, n1, n2, e⟩)
    have mx : M q x := ps_edge H sx (fun u v huv hu hv hx => by
      have pu := (ps_P H hu).1
      have pv := (ps_P H hv).1
      have nqu := (ps_P H hu).2
      have nqv := (ps_P H hv).2
      obtain ⟨m1, m2, m3, m4⟩ := crs_d hx
      have nuv := (N.1 u v huv).2.2.1
      by_cases e1 : u = y
      · subst e1
        exact tp3 C kq (hR v hv m4 nuv.symm) hx
      by_cases e2 : v = y
      · subst e2
        rw [← crs_l C pu pv pp px nuv] at hx
        exact tp3 C kq (hR u hu m2 e1) hx
      exact tp2 C kq (hR u hu m2 e1) (hR v hv m4 e2) hx)
    have my : M q y := ps_edge H sy (fun u v huv hu hv hx => by
      have pu := (ps_P H hu).1
      have pv := (ps_P H hv).1
      have nqu := (ps_P H hu).2
      have nqv := (ps_P H hv).2
      obtain ⟨m1, m2, m3, m4⟩ := crs_d hx
      have nuv := (N.1 u v huv).2.2.1
      by_cases e1 : u = x
      · subst e1
        exact tp5 C kq (hR v hv nuv.symm m4) hx
      by_cases e2 : v = x
      · subst e2
        rw [← crs_l C pu pv pp py nuv] at hx
        exact tp5 C kq (hR u hu e1 m2) hx
      exact tp4 C kq (hR u hu e1 m2) (hR v hv e2 m4) hx)
    refine ⟨q, List.mem_cons_self, npx, npy, kq, sym mx, sym my, fun r rl => bf (fun hw => ?_)⟩
    obtain ⟨n1, n2, n3⟩ := wit_d hw
    rcases List.mem_cons.mp rl with e | e
    · exact n3 e
    · have pr := (ps_P H e).1
      have := hR r e n1 n2
      exact tp6 C kq hw this
end
