/-! Calls: what both sides answer. -/
def fdn (σ : zS) (k : Nat) : zS := zmk σ.s σ.kp σ.fi σ.un σ.z (fun j => if j = k then σ.fd k + 1 else σ.fd j) σ.rm σ.row σ.so σ.si σ.ce
theorem wfs_fdn {σ : zS} (h : Wfs σ) (k : Nat) : Wfs (fdn σ k) := h
def COk (c : Option zRes) (g : zIJ) (v : Value) (σ' : zS) (t' : Nat) : Prop := ∃ g', c = some (some v, g') ∧ zFr tC g g' ∧ CI g' σ' t'
def ROk (r : Option zRes) (g : zIJ) (v : Value) (σ' : zS) : Prop := ∃ g', r = some (some v, g') ∧ zFr tR g g' ∧ RI g' σ'
def PairC (c r : zIJ → Option zRes) : Prop := ∀ (σ : zS) (g : zIJ) (t : Nat), Wfs σ → CI g σ t → t ≤ 1000000 → ∃ v σ', Wfs σ' ∧ COk (c g) g v σ' (t + 2) ∧ ∀ g', RI g' σ → ROk (r g') g' v σ'
theorem ci_fnd {g : zIJ} {σ : zS} {t k : Nat} (h : CI g σ t) : CI (zsI g 241 k (g.1 241 k + 1)) (fdn σ k) t := by
  by_cases hk : k < 8
  · have f : zFr (fun a b => decide (a = 241)) g (zsI g 241 k (g.1 241 k + 1)) := fr_I g _ rfl
    have f' : ∀ a b, a ≠ 241 → (zsI g 241 k (g.1 241 k + 1)).1 a b = g.1 a b ∧ (zsI g 241 k (g.1 241 k + 1)).2 a b = g.2 a b := fun a b q => f a b (decide_eq_false q)
    obtain ⟨⟨h1, h2, h3, h4, h5, h6, h7⟩, n, X, Y, hc⟩ := h
    refine ⟨⟨cbo_fr h1 (fun a b k1 k2 => f' a b (by omega)), fun i hi => cbo_fr (h2 i hi) (fun a b k1 k2 => f' a b (by omega)), ⟨?_, ?_⟩, ?_, fun j hj => ?_, ⟨?_, fun i hi => ⟨?_, ?_⟩⟩, fun q hq => ⟨?_, ?_, fun i hi => ?_⟩⟩, n, X, Y, cache_fr hc (fun a b k1 k2 _ => f' a b (by omega))⟩
    · rw [(f' _ _ (by omega)).1]; exact h3.1
    · rw [(f' _ _ (by omega)).1]; exact h3.2
    · rw [(f' _ _ (by omega)).1]; exact h4
    · rw [zI_at]
      show _ = if j = k then σ.fd k + 1 else σ.fd j
      by_cases e : j = k
      · subst e
        rw [if_pos ⟨rfl, rfl⟩, if_pos rfl, h5 j hk]
      · rw [if_neg (fun z => e z.2), if_neg e, h5 j hj]
    · rw [(f' _ _ (by omega)).1]; exact h6.1
    · rw [(f' _ _ (by omega)).1]; exact (h6.2 i hi).1
    · rw [(f' _ _ (by omega)).1]; exact (h6.2 i hi).2
    · rw [(f' _ _ (by omega)).1]; exact (h7 q hq).1
    · rw [(f' _ _ (by omega)).1]; exact (h7 q hq).2.1
    · rw [(f' _ _ (by omega)).2]; exact (h7 q hq).2.2 i hi
  · have f : zFr (fun a b => decide (a = 241)) g (zsI g 241 k (g.1 241 k + 1)) := fr_I g _ rfl
    have f' : ∀ a b, a ≠ 241 → (zsI g 241 k (g.1 241 k + 1)).1 a b = g.1 a b ∧ (zsI g 241 k (g.1 241 k + 1)).2 a b = g.2 a b := fun a b q => f a b (decide_eq_false q)
    obtain ⟨⟨h1, h2, h3, h4, h5, h6, h7⟩, n, X, Y, hc⟩ := h
    refine ⟨⟨cbo_fr h1 (fun a b k1 k2 => f' a b (by omega)), fun i hi => cbo_fr (h2 i hi) (fun a b k1 k2 => f' a b (by omega)), ⟨?_, ?_⟩, ?_, fun j hj => ?_, ⟨?_, fun i hi => ⟨?_, ?_⟩⟩, fun q hq => ⟨?_, ?_, fun i hi => ?_⟩⟩, n, X, Y, cache_fr hc (fun a b k1 k2 _ => f' a b (by omega))⟩
    · rw [(f' _ _ (by omega)).1]; exact h3.1
    · rw [(f' _ _ (by omega)).1]; exact h3.2
    · rw [(f' _ _ (by omega)).1]; exact h4
    · rw [zI_at]
      show _ = if j = k then σ.fd k + 1 else σ.fd j
      rw [if_neg (by omega), if_neg (by omega), h5 j hj]
    · rw [(f' _ _ (by omega)).1]; exact h6.1
    · rw [(f' _ _ (by omega)).1]; exact (h6.2 i hi).1
    · rw [(f' _ _ (by omega)).1]; exact (h6.2 i hi).2
    · rw [(f' _ _ (by omega)).1]; exact (h7 q hq).1
    · rw [(f' _ _ (by omega)).1]; exact (h7 q hq).2.1
    · rw [(f' _ _ (by omega)).2]; exact (h7 q hq).2.2 i hi
theorem ri_fnd {g : zIJ} {σ : zS} {k : Nat} (h : RI g σ) (hw : Wfs σ) : RI (zsI g 293 k (g.1 293 k + 1)) (fdn σ k) := by
  have f : zFr (fun a b => decide (a = 293)) g (zsI g 293 k (g.1 293 k + 1)) := fr_I g _ rfl
  have f' : ∀ a b, a ≠ 293 → (zsI g 293 k (g.1 293 k + 1)).1 a b = g.1 a b ∧ (zsI g 293 k (g.1 293 k + 1)).2 a b = g.2 a b := fun a b q => f a b (decide_eq_false q)
  obtain ⟨⟨h1, h2, h3, h4, h5, h6, h7⟩, hl⟩ := h
  have r13 := hw.2.2.2.2.1
  refine ⟨⟨fun a ha => ?_, fun i hi a ha => ?_, ⟨?_, ?_⟩, ?_, fun j hj => ?_, ⟨?_, fun i hi => ⟨?_, ?_⟩⟩, fun q hq => ⟨?_, ?_, fun i hi => ?_⟩⟩, ?_⟩
  · rw [(f' _ _ (by omega)).1]; exact h1 a ha
  · rw [(f' _ _ (by omega)).1]; exact h2 i hi a ha
  · rw [(f' _ _ (by omega)).1]; exact h3.1
  · rw [(f' _ _ (by omega)).1]; exact h3.2
  · rw [(f' _ _ (by omega)).1]; exact h4
  · rw [zI_at]
    show _ = if j = k then σ.fd k + 1 else σ.fd j
    by_cases e : j = k
    · subst e
      rw [if_pos ⟨rfl, rfl⟩, if_pos rfl, h5 j hj]
    · rw [if_neg (fun z => e z.2), if_neg e, h5 j hj]
  · rw [(f' _ _ (by omega)).1]; exact h6.1
  · have : i < σ.rm := hi
    rw [(f' _ _ (by omega)).1]; exact (h6.2 i hi).1
  · have : i < σ.rm := hi
    rw [(f' _ _ (by omega)).1]; exact (h6.2 i hi).2
  · rw [(f' _ _ (by omega)).1]; exact (h7 q hq).1
  · rw [(f' _ _ (by omega)).1]; exact (h7 q hq).2.1
  · rw [(f' _ _ (by omega)).2]; exact (h7 q hq).2.2 i hi
  · rw [(f' 250 15 (by omega)).1]
    rcases hl with q | ⟨q, l⟩
    · exact Or.inl q
    · exact Or.inr ⟨q, rld_fr l (f' _ _ (by omega)).1 rfl⟩
/-- the value of a finding -/
def fI (k : Nat) : Value := .int ((-1000001) - nI k)
def fL (k : Nat) : Value := .long ((-1000000000000000001) - (nI k).toInt64)
section
variable {g g0 : zIJ} {σ : zS} {t : Nat}
theorem cok_find {k : Nat} (h : CI g σ t) (f : zFr tC g0 g) (hk : k < 8) : COk (zaI (zev mX11_finding 0 [.ref 3, .int (nI k)] g) fun x g => some (some (.int x), g)) g0 (fI k) (fdn σ k) t := by
  rw [c_finding g hk, zaI_some]
  exact ⟨_, rfl, fr_tr f (fr_I g _ rfl), ci_fnd h⟩
theorem cok_findL {k : Nat} (h : CI g σ t) (f : zFr tC g0 g) (hk : k < 8) : COk (zaL (zev mX11_longFinding 0 [.ref 3, .int (nI k)] g) fun x g => some (some (.long x), g)) g0 (fL k) (fdn σ k) t := by
  rw [c_longFinding g hk, zaL_some]
  exact ⟨_, rfl, fr_tr f (fr_I g _ rfl), ci_fnd h⟩
theorem rok_find {k : Nat} (h : RI g σ) (hw : Wfs σ) (f : zFr tR g0 g) (hk : k < 8) : ROk (zaI (zev mX12_finds 0 [.ref 250, .int (nI k)] g) fun x g => some (some (.int x), g)) g0 (fI k) (fdn σ k) := by
  rw [r_finds g hk, zaI_some]
  exact ⟨_, rfl, fr_tr f (fr_I g _ rfl), ri_fnd h hw⟩
theorem rok_findL {k : Nat} (h : RI g σ) (hw : Wfs σ) (f : zFr tR g0 g) (hk : k < 8) : ROk (zaL (zev mX12_findsLong 0 [.ref 250, .int (nI k)] g) fun x g => some (some (.long x), g)) g0 (fL k) (fdn σ k) := by
  rw [r_findsLong g hk, zaL_some]
  exact ⟨_, rfl, fr_tr f (fr_I g _ rfl), ri_fnd h hw⟩
theorem cok_of {v : Value} (h : CI g σ t) (f : zFr tC g0 g) {t' : Nat} (ht : t ≤ t') : COk (some (some v, g)) g0 v σ t' := ⟨g, rfl, f, ci_le h ht⟩
theorem rok_of {v : Value} (h : RI g σ) (f : zFr tR g0 g) : ROk (some (some v, g)) g0 v σ := ⟨g, rfl, f, h⟩
theorem cok_le {c : Option zRes} {v : Value} {t' : Nat} (h : COk c g v σ t) (ht : t ≤ t') : COk c g v σ t' := by
  obtain ⟨g', h1, h2, h3⟩ := h
  exact ⟨g', h1, h2, ci_le h3 ht⟩
theorem c_fol (hw : Wfs σ) (h : CI g σ t) (ht : t ≤ 1000000) : ∃ g', zev mX5_follow 0 [.ref 211, .ref 4] g = some (none, g') ∧ zFr tC g g' ∧ CIp g' σ (t + 1) := by
  obtain ⟨h0, n', X', Y', hp, hc, A, b, a1, a2, a3, b1, b2, b3, hs⟩ := h
  obtain ⟨g', e, ok, f, ag⟩ := c_follow hp (cb_s h0.1 hw.1) hw.1.2.1
  have fb : ∀ k j, tPl k j = true → 211 ≤ k ∧ k ≤ 218 := fun k j q => by
    simp only [tPl, Bool.and_eq_true, Nat.ble_eq] at q
    exact q
  have fx : zFr tX g g' := fr_ud f (fun k j q => by have := fb k j q; omega)
  have f' : ∀ k j, 219 ≤ k → g'.1 k j = g.1 k j ∧ g'.2 k j = g.2 k j := fun k j hk => f k j (by
    cases q : tPl k j with
    | false => rfl
    | true => have := fb k j q; omega)
  refine ⟨g', e, fr_ud f (fun k j q => by have := fb k j q; omega), ci0_fr h0 fx, ok, ?_⟩
  rcases ag with ⟨e1, e2, e3, e4⟩ | ag
  · subst e1 e2 e3 e4
    exact ⟨hc, A, b, a1, a2, by omega, b1, b2, b3, hs⟩
  · have ag2 : g'.1 211 10 = cI (A + 1) := by rw [ag, a1]; exact cI_add A 1
    have nb : g'.1 219 3 = cI b := by rw [(f' 219 3 (by omega)).1, b1]
    refine ⟨?_, A + 1, b, ag2, by omega, by omega, nb, b2, by omega, ?_⟩
    · obtain ⟨mu, ba, m1, m2, m3, m4, _⟩ := hc
      refine ⟨mu, ba, by rw [(f' _ _ (by omega)).2, m1], by rw [(f' _ _ (by omega)).2, m2], m3, m4, fun q => ?_⟩
      rw [nb, ag2, cI_inj (by unfold Sml; omega) (by unfold Sml; omega)] at q
      omega
    · obtain ⟨c, c1, c2, c3, _⟩ := hs
      exact ⟨c, by rw [(f' _ _ (by omega)).1, c1], c2, by omega, fun q => by omega⟩
theorem c_folN (hw : Wfs σ) (h : CI g σ t) (ht : t ≤ 1000000) : ∃ g1 g', zev mX5_follow 0 [.ref 211, .ref 4] g = some (none, g1) ∧ zev mX3_follow 0 [.ref 219, .ref 211, .ref 4] g1 = some (none, g') ∧ zFr tC g g' ∧ CIn g' σ (t + 1) := by
  obtain ⟨g1, e1, f1, i0, hp, hc, A, b, a1, a2, a3, b1, b2, b3, hs⟩ := c_fol hw h ht
  have hm1 := mM_lt σ.s 1
  have hm2 := mM_lt σ.s 2
  obtain ⟨g', e2, f2, nc, nl, ag, m1, m2⟩ := c_nfollow hp hc i0.1.2.2.2.2.1 i0.1.2.2.2.2.2 hm1 hm2
  have fb : ∀ k j, tNt k j = true → 219 ≤ k ∧ k ≤ 222 := fun k j q => by
    simp only [tNt, Bool.and_eq_true, Nat.ble_eq] at q
    exact q
  have f' : ∀ k j, (k < 219 ∨ 222 < k) → g'.1 k j = g1.1 k j ∧ g'.2 k j = g1.2 k j := fun k j hk => f2 k j (by
    cases q : tNt k j with
    | false => rfl
    | true => have := fb k j q; omega)
  have ag' : g'.1 219 3 = g'.1 211 10 := by rw [(f' 211 10 (by omega)).1]; exact ag
  refine ⟨g1, g', e1, e2, fr_tr f1 (fr_ud f2 (fun k j q => by have := fb k j q; omega)), ⟨ci0_fr i0 (fr_ud f2 (fun k j q => by have := fb k j q; omega)), pok_of hp (fun k j k1 k2 _ => f' k j (by omega)), nc, A, A, ?_, a2, a3, ?_, by omega, by omega, swI_fr hs (fun k j k1 k2 => f' k j (by omega))⟩, ?_, ag', m1, m2⟩
  · rw [(f' _ _ (by omega)).1, a1]
  · rw [ag, a1]
  · rw [nsL_flt hw.1] at nl; exact nl
theorem zin_g (a : Int32) {n : Nat} (hn : n < 2 ^ 31) : cond (decide (a < 0)) false (!decide (nI n ≤ a)) = zin a n := by
  unfold zin
  have e0 : decide (a < 0) = decide (a.toInt < 0) := decide_eq_decide.mpr Int32.lt_iff_toInt_lt
  have e1 : decide (nI n ≤ a) = decide ((n : Int) ≤ a.toInt) := decide_eq_decide.mpr (by rw [Int32.le_iff_toInt_le, nI_toInt hn])
  rw [e0, e1]
  by_cases q : a.toInt < 0
  · rw [decide_eq_true q, decide_eq_false (show ¬ (0 ≤ a.toInt ∧ a.toInt < (n : Int)) by omega)]; rfl
  · rw [decide_eq_false q]
    by_cases q2 : (n : Int) ≤ a.toInt
    · rw [decide_eq_true q2, decide_eq_false (show ¬ (0 ≤ a.toInt ∧ a.toInt < (n : Int)) by omega)]; rfl
    · rw [decide_eq_false q2, decide_eq_true (show (0 ≤ a.toInt ∧ a.toInt < (n : Int)) by omega)]; rfl
theorem c_isNet (hw : Wfs σ) (h : CI g σ t) (ht : t ≤ 1000000) (a : Int32) : ∃ g', zev mX11_isNet 0 [.ref 3, .int a] g = some (some (.int (bI (zin a (nsL σ.s).length))), g') ∧ zFr tC g g' ∧ CIn g' σ (t + 1) := by
  obtain ⟨g1, g', e1, e2, f, hn⟩ := c_folN hw h ht
  have l8 := (nsL_ok hw.1).1
  refine ⟨g', ?_, f, hn⟩
  rw [uX11_isNet_0, e1, zaV_some, e2, zaV_some, hn.2.1.1, ← zin_g a (by omega : (nsL σ.s).length < 2 ^ 31)]
  cases decide (a < 0) <;> cases decide (nI (nsL σ.s).length ≤ a) <;> rfl
theorem c_fN (hw : Wfs σ) (h : CI g σ t) (ht : t ≤ 1000000) : ∃ g', zev mX11_followNets 0 [.ref 3] g = some (none, g') ∧ zFr tC g g' ∧ CIn g' σ (t + 1) := by
  obtain ⟨g1, g', e1, e2, f, hn⟩ := c_folN hw h ht
  refine ⟨g', ?_, f, hn⟩
  rw [uX11_followNets_0, e1, zaV_some, e2, zaV_some]
theorem mM_cg {s s' : Nat → Int32} (h : ∀ k, k < 72 → s k = s' k) (v : Int32) : mM s v = mM s' v := by
  refine bit_ext (mM_lt s v) (mM_lt s' v) (fun i hi => ?_)
  rw [mM_at hi, mM_at hi, h _ (by omega)]
def RIn (g : zIJ) (σ : zS) : Prop := RI0 g σ ∧ g.1 250 15 = 1 ∧ RLd g (nsL σ.s)
theorem rin_ri (h : RIn g σ) : RI g σ := ⟨h.1, Or.inr h.2⟩
theorem r_lN (hw : Wfs σ) (h : RI g σ) : ∃ g', zev mX12_listsNets 0 [.ref 250] g = some (none, g') ∧ zFr tR g g' ∧ RIn g' σ := by
  obtain ⟨w1, ⟨p1, p2, p3, p4, p5⟩, w3, w4, w5⟩ := hw.1
  have eq : netsOf (XS σ.s) (YS σ.s) (nS σ.s) (g.1 251) = nsL σ.s := by
    unfold nsL netsOf
    rw [mM_cg h.1.1 1, mM_cg h.1.1 2]
  have hm : MksOK (g.1 251) (nS σ.s) := fun e he => by rw [h.1.1 _ (by omega)]; exact w3 e he
  obtain ⟨g', e, f, l1, l2⟩ := r_listsNets (rb_s h.1.1 hw.1) p2 p3 p4 hm (by rw [eq]; exact h.2)
  rw [eq] at l2
  have fb : ∀ k j, tLi k j = true → (k = 296 ∨ k = 297 ∨ (k = 250 ∧ (j = 10 ∨ j = 11 ∨ j = 12 ∨ j = 14 ∨ j = 15))) := fun k j q => by
    simp only [tLi, Bool.and_eq_true, Bool.or_eq_true, Nat.beq_eq] at q
    omega
  exact ⟨g', e, fr_ud f (fun k j q => by have := fb k j q; omega), ri0_fr h.1 hw (fr_ud f (fun k j q => by have := fb k j q; omega)), l1, l2⟩
theorem r_isNet (hw : Wfs σ) (h : RI g σ) (a : Int32) : ∃ g', zev mX12_isNet 0 [.ref 250, .int a] g = some (some (.int (bI (zin a (nsL σ.s).length))), g') ∧ zFr tR g g' ∧ RIn g' σ := by
  obtain ⟨g', e, f, hn⟩ := r_lN hw h
  have l8 := (nsL_ok hw.1).1
  refine ⟨g', ?_, f, hn⟩
  rw [uX12_isNet_0, e, zaV_some, hn.2.2.1, r_inI g' a (lo := 0) (l := 0) rfl (pred_l (by omega : (nsL σ.s).length < 2 ^ 31)), zin_d, zaI_some, bI_bit]
  rfl
end
