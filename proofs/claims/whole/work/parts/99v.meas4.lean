/-! Nets measured: the reference, both calls. -/
def ix (i j : Nat) : Nat := i * (17 - i) / 2 + j - i - 1
theorem ix_chk : ∀ i, i < 9 → ix i 9 = ix (i + 1) (i + 2) ∧ ix i 9 ≤ 36 := by decide +kernel
theorem ix_eN : ∀ i, i < 9 → ∀ j, j < 9 → i < j → eN i j = ix i j ∧ ix i (j + 1) = ix i j + 1 := by decide +kernel
theorem ix_le : ∀ i, i < 9 → ∀ j, j < 10 → i < j → ix i j ≤ ix i 9 := by decide +kernel
theorem ix_ge : ∀ n, n < 10 → ∀ i, i < n → ∀ f, f < 36 → ix i n ≤ f → f < ix i 9 → n ≤ eHi f := by decide +kernel
theorem ix_end : ∀ n, n < 10 → ix n (n + 1) ≤ 36 ∧ ∀ f, f < 36 → ix n (n + 1) ≤ f → n ≤ eHi f := by decide +kernel
theorem rdV_skip {E : Nat → Int64 × Bool} {R : Nat → Int64} {w : Nat} {fold : Int} : ∀ (k e : Nat) (p : Bool × Int64 × Bool), (∀ f, e ≤ f → f < e + k → w.testBit f = false) → rdV E R w fold k e p = p
  | 0, _, _, _ => rfl
  | k + 1, e, p, h => by
    show rdV E R w fold k (e + 1) _ = p
    rw [h e (by omega) (by omega)]
    exact rdV_skip k (e + 1) p (fun f h1 h2 => h f (by omega) (by omega))
theorem rdV_add {E : Nat → Int64 × Bool} {R : Nat → Int64} {w : Nat} {fold : Int} : ∀ (k l e : Nat) (p : Bool × Int64 × Bool), rdV E R w fold (k + l) e p = rdV E R w fold l (e + k) (rdV E R w fold k e p)
  | 0, l, e, p => by rw [Nat.zero_add]; rfl
  | k + 1, l, e, p => by
    rw [show k + 1 + l = (k + l) + 1 from by omega]
    show rdV E R w fold (k + l) (e + 1) _ = rdV E R w fold l (e + (k + 1)) (rdV E R w fold k (e + 1) _)
    rw [rdV_add k l (e + 1), show e + 1 + k = e + (k + 1) from by omega]
theorem chV_t (s : Nat → Int32) (m i : Nat) (v : Int64) : chV s m i (v, true) = (v, true) := by cases m <;> rfl
theorem i32_0 (a : Int32) : decide (a = 0) = decide (a.toInt = 0) := decide_eq_decide.mpr ⟨fun z => by rw [z]; rfl, fun z => Int32.toInt_inj.mp z⟩
theorem i32_1 (a : Int32) : decide (a = 1) = decide (a.toInt = 1) := decide_eq_decide.mpr ⟨fun z => by rw [z]; rfl, fun z => Int32.toInt_inj.mp z⟩
theorem i32_2 (a : Int32) : decide (a = 2) = decide (a.toInt = 2) := decide_eq_decide.mpr ⟨fun z => by rw [z]; rfl, fun z => Int32.toInt_inj.mp z⟩
def ruX (s : Nat → Int32) (r : Int) (e : Nat) : Int64 := ruE (XS s) (YS s) r (eLo e) (eHi e)
section
variable {g : zIJ} {s : Nat → Int32} {m w : Nat}
theorem rb_rs (h : RBo g 251 s) (hw : Wf s) (o : Bool) : RB (rset g o) (nS s) (XS s) (YS s) := rb_s (fun k hk => by rw [rset_o (by omega) k]; exact h k hk) hw
theorem r_fo1 (h : RBo g 251 s) (hW : Wf s) (hm : s 1 = nI m) (m8 : m ≤ 8) {r fold : Int32} {i j : Nat} (hi : i < j) (hj : j < nS s) (p : Bool × Int64 × Bool) : zev mX12_folded 24 [.ref 250, .long (lN w), .int r, .int fold, .int (bI p.1), .long p.2.1, .int (nI i), .int (nI j)] (rset g p.2.2) = zev mX12_folded 24 [.ref 250, .long (lN w), .int r, .int fold, .int (bI (cond (w.testBit (eN i j)) (false, (foV fold.toInt p.1 p.2.1 (cond p.2.2 (ruX s r.toInt (eN i j)) (eM1 s m r.toInt (eN i j)).1)).1, (p.2.2 || (eM1 s m r.toInt (eN i j)).2) || (foV fold.toInt p.1 p.2.1 (cond p.2.2 (ruX s r.toInt (eN i j)) (eM1 s m r.toInt (eN i j)).1)).2) p).1), .long (cond (w.testBit (eN i j)) (false, (foV fold.toInt p.1 p.2.1 (cond p.2.2 (ruX s r.toInt (eN i j)) (eM1 s m r.toInt (eN i j)).1)).1, (p.2.2 || (eM1 s m r.toInt (eN i j)).2) || (foV fold.toInt p.1 p.2.1 (cond p.2.2 (ruX s r.toInt (eN i j)) (eM1 s m r.toInt (eN i j)).1)).2) p).2.1, .int (nI i), .int (nI (j + 1))] (rset g (cond (w.testBit (eN i j)) (false, (foV fold.toInt p.1 p.2.1 (cond p.2.2 (ruX s r.toInt (eN i j)) (eM1 s m r.toInt (eN i j)).1)).1, (p.2.2 || (eM1 s m r.toInt (eN i j)).2) || (foV fold.toInt p.1 p.2.1 (cond p.2.2 (ruX s r.toInt (eN i j)) (eM1 s m r.toInt (eN i j)).1)).2) p).2.2) := by
  have hn := wf_n hW
  have rb := rb_rs h hW p.2.2
  obtain ⟨k1, k2, k3, k4, k5⟩ := edge_at (by omega : i < 9) (by omega : j < 9) (by omega)
  have ex : ruX s r.toInt (eN i j) = ruE (XS s) (YS s) r.toInt i j := by
    unfold ruX
    rw [k3, k4, Nat.min_eq_left (by omega), Nat.max_eq_right (by omega)]
  have em : eM1 s m r.toInt (eN i j) = chV s m 0 (ruE (XS s) (YS s) r.toInt i j, false) := by
    unfold eM1 eMs
    rw [k3, k4, Nat.min_eq_left (by omega), Nat.max_eq_right (by omega)]
  have ch : chV s m 0 (ruE (XS s) (YS s) r.toInt i j, p.2.2) = (cond p.2.2 (ruX s r.toInt (eN i j)) (eM1 s m r.toInt (eN i j)).1, p.2.2 || (eM1 s m r.toInt (eN i j)).2) := by
    cases p.2.2 with
    | true => rw [chV_t, ex]; rfl
    | false => rw [em]; rfl
  rw [uX12_folded_24, r_points rb, zaI_some, decide_eq_false (nI_ge (a := j) (b := nS s) hj (by omega)), r_edge _ (by omega : i < 9) (by omega : j < 9) (by omega), zaI_some, r_has _ w (by omega : eN i j < 64), zaI_some, bI_0]
  simp only [nI_1]
  cases z : w.testBit (eN i j) with
  | false => rfl
  | true =>
    rw [r_byRule rb hW.2.1.2.1 (by omega : i < nS s) hj, zaL_some, r_chained h hm m8, zaL_some, ch, bI_0, i32_0, i32_1, i32_2, r_plus, zaL_some]
    generalize (cond p.2.2 (ruX s r.toInt (eN i j)) (eM1 s m r.toInt (eN i j)).1) = v
    generalize (p.2.2 || (eM1 s m r.toInt (eN i j)).2) = o
    unfold foV
    cases p.1
    · cases decide (fold.toInt = 0)
      · cases decide (fold.toInt = 1)
        · cases decide (fold.toInt = 2) <;> cases o <;> rfl
        · cases o <;> rfl
      · rfl
    · cases o <;> rfl
theorem r_fo (h : RBo g 251 s) (hW : Wf s) (hm : s 1 = nI m) (m8 : m ≤ 8) (hw : ∀ f, f < 36 → w.testBit f = true → eHi f < nS s) (r fold : Int32) : ∀ (d i : Nat) (p : Bool × Int64 × Bool), i + d = nS s → zev mX12_folded 9 [.ref 250, .long (lN w), .int r, .int fold, .int (bI p.1), .long p.2.1, .int (nI i)] (rset g p.2.2) = some (some (.long (rdV (eM1 s m r.toInt) (ruX s r.toInt) w fold.toInt (36 - ix i (i + 1)) (ix i (i + 1)) p).2.1), rset g (rdV (eM1 s m r.toInt) (ruX s r.toInt) w fold.toInt (36 - ix i (i + 1)) (ix i (i + 1)) p).2.2)
  | 0, i, p, e => by
    have hn := wf_n hW
    have : i = nS s := by omega
    rw [uX12_folded_9, r_points (rb_rs h hW p.2.2), zaI_some, decide_eq_true (nI_le (by omega : nS s ≤ i) (by omega)), rdV_skip _ _ p (fun f h1 h2 => ?_)]
    · rfl
    · have i1 := ix_end i (by omega)
      cases z : w.testBit f with
      | false => rfl
      | true =>
        have := hw f (by omega) z
        have := i1.2 f (by omega) h1
        omega
  | d + 1, i, p, e => by
    have hn := wf_n hW
    have inner : ∀ (l j : Nat) (p : Bool × Int64 × Bool), j + l = nS s → i < j → zev mX12_folded 24 [.ref 250, .long (lN w), .int r, .int fold, .int (bI p.1), .long p.2.1, .int (nI i), .int (nI j)] (rset g p.2.2) = some (some (.long (rdV (eM1 s m r.toInt) (ruX s r.toInt) w fold.toInt (36 - ix i j) (ix i j) p).2.1), rset g (rdV (eM1 s m r.toInt) (ruX s r.toInt) w fold.toInt (36 - ix i j) (ix i j) p).2.2) := by
      intro l
      induction l with
      | zero =>
        intro j p el lj
        have c1 := ix_chk i (by omega)
        have c2 := ix_le i (by omega) j (by omega) lj
        rw [uX12_folded_24, r_points (rb_rs h hW p.2.2), zaI_some, decide_eq_true (nI_le (by omega : nS s ≤ j) (by omega)), nI_1]
        show zev mX12_folded 9 [.ref 250, .long (lN w), .int r, .int fold, .int (bI p.1), .long p.2.1, .int (nI (i + 1))] (rset g p.2.2) = _
        rw [r_fo h hW hm m8 hw r fold d (i + 1) p (by omega), show 36 - ix i j = (ix i 9 - ix i j) + (36 - ix i 9) from by omega, rdV_add, rdV_skip (ix i 9 - ix i j) (ix i j) p (fun f h1 h2 => ?_), show ix i j + (ix i 9 - ix i j) = ix i 9 from by omega, c1.1]
        cases z : w.testBit f with
        | false => rfl
        | true =>
          have := hw f (by omega) z
          have := ix_ge j (by omega) i (by omega) f (by omega) h1 (by omega)
          omega
      | succ l ih =>
        intro j p el lj
        have c1 := ix_chk i (by omega)
        have c2 := ix_le i (by omega) (j + 1) (by omega) (by omega)
        have c3 := ix_eN i (by omega) j (by omega) lj
        rw [r_fo1 h hW hm m8 lj (by omega), ih (j + 1) _ (by omega) (by omega), c3.2, show 36 - ix i j = (36 - (ix i j + 1)) + 1 from by omega, c3.1]
        rfl
    rw [uX12_folded_9, r_points (rb_rs h hW p.2.2), zaI_some, decide_eq_false (nI_ge (a := i) (b := nS s) (by omega) (by omega)), nI_1]
    exact inner d (i + 1) p (by omega) (by omega)
theorem r_folded (h : RBo g 251 s) (hW : Wf s) (hm : s 1 = nI m) (m8 : m ≤ 8) (hw : ∀ f, f < 36 → w.testBit f = true → eHi f < nS s) (r fold : Int32) (o : Bool) : ∃ v', zev mX12_folded 0 [.ref 250, .long (lN w), .int r, .int fold] (rset g o) = some (some (.long v'), rset g (o || (fnV (eM1 s m r.toInt) (nS s) w fold.toInt).2.2)) ∧ ((o || (fnV (eM1 s m r.toInt) (nS s) w fold.toInt).2.2) = false → v' = (fnV (eM1 s m r.toInt) (nS s) w fold.toInt).2.1) := by
  have k := r_fo (w := w) h hW hm m8 hw r fold (nS s) 0 (true, 0, o) (by omega)
  have z : ix 0 (0 + 1) = 0 := rfl
  rw [z] at k
  obtain ⟨k1, k2⟩ := rd_end (E := eM1 s m r.toInt) (R := ruX s r.toInt) (fold := fold.toInt) hw o
  refine ⟨_, ?_, k2⟩
  rw [uX12_folded_0]
  refine Eq.trans k ?_
  rw [← k1]
end
theorem nsL_in {s : Nat → Int32} (h : Wf s) {w : Nat} (hw : w ∈ nsL s) : 3 ≤ nS s ∧ w < 2 ^ 36 ∧ Net (oXY (XS s) (YS s)) (List.range (nS s)) (Em w) ∧ (∀ k, (mM s 1).testBit k = true → w.testBit k = true) ∧ ∀ k, (mM s 2).testBit k = true → w.testBit k = false := by
  obtain ⟨h1, ⟨p1, p2, p3, p4, p5⟩, h3, h4, h5⟩ := h
  unfold nsL netsOf at hw
  cases q : Nat.blt (nS s) 3 with
  | true =>
    rw [q] at hw
    cases hw
  | false =>
    rw [q] at hw
    have l3 : 3 ≤ nS s := Nat.le_of_not_lt (fun z => by rw [Nat.blt_eq.mpr z] at q; exact absurd q (by decide))
    exact ⟨l3, (netL_mem p3 p1 (mM_can h3 (by decide))).mp hw⟩
theorem nsL_hi {s : Nat → Int32} (h : Wf s) {w : Nat} (hw : w ∈ nsL s) : ∀ f, f < 36 → w.testBit f = true → eHi f < nS s := by
  intro f hf b
  obtain ⟨_, w1, w2, _⟩ := nsL_in h hw
  have := (net_ncm h.2.1.2.2.1 h.2.1.1 w1 w2).2.1 f b
  rw [can_at hf] at this
  exact of_decide_eq_true this
theorem cin_m {g g' : zIJ} {σ : zS} {t : Nat} (h : CIn g σ t) (f : zFr tMt g g') : CIn g' σ t := cin_w h (fr_ud f (fun k j q => by have := of_decide_eq_true q; omega))
theorem cin_ci {g : zIJ} {σ : zS} {t : Nat} (h : CIn g σ t) : CI g σ t := cip_ci h.1
theorem fr_mt (g : zIJ) (v : Int64) (o : Bool) : zFr tMt g (mset g v o) := fr_tr (fr_I g (bI o) rfl) (fr_L _ v rfl)
theorem fr_mc {g g' : zIJ} (f : zFr tMt g g') : zFr tC g g' := fr_ud f (fun a b q => by have := of_decide_eq_true q; omega)
theorem rin_rs {g : zIJ} {σ : zS} (h : RIn g σ) (hw : Wfs σ) (o : Bool) : RIn (rset g o) σ := ⟨(ri_rs (rin_ri h) hw o).1, (zI_col _ _ (by decide)).trans h.2.1, rld_fr h.2.2 (zI_col _ _ (by decide)) rfl⟩
theorem p_ofNet (a b c : Int32) : PairC (fun g => zev mX11_ofNet 0 [.ref 3, .int a, .int b, .int c] g) (fun g => zev mX12_ofNet 0 [.ref 250, .int a, .int b, .int c] g) := by
  intro σ g t hw h ht
  obtain ⟨m, m8, em⟩ := hw.1.2.2.2.2
  have l8 := (nsL_ok hw.1).1
  by_cases q1 : 0 ≤ b.toInt ∧ b.toInt ≤ 6
  · by_cases q2 : 0 ≤ c.toInt ∧ c.toInt ≤ 3
    · obtain ⟨g1, x1, f1, n1⟩ := c_isNet hw h ht a
      cases q3 : zin a (nsL σ.s).length with
      | false =>
        refine ⟨fL 3, fdn σ 3, wfs_fdn hw 3, ?_, fun g' r => ?_⟩
        · show COk (zev mX11_ofNet 0 _ g) _ _ _ _
          rw [uX11_ofNet_0, c_isRule, zaI_some, decide_eq_true q1, c_isFold, zaI_some, decide_eq_true q2, x1, zaI_some, q3]
          exact cok_le (cok_findL (k := 3) (cin_ci n1) f1 (by omega)) (by omega : t + 1 ≤ t + 2)
        · show ROk (zev mX12_ofNet 0 _ g') _ _ _
          obtain ⟨g2, x2, f2, n2⟩ := r_isNet hw r a
          rw [uX12_ofNet_0, r_inI g' b (lo := 0) (l := 0) (hi := 6) (h := 6) rfl rfl, zaI_some, decide_eq_true q1, r_inI g' c (lo := 0) (l := 0) (hi := 3) (h := 3) rfl rfl, zaI_some, decide_eq_true q2, x2, zaI_some, q3]
          exact rok_findL (k := 3) (rin_ri n2) hw f2 (by omega)
      | true =>
        obtain ⟨k, hk, ek⟩ := zin_of q3 (by omega)
        subst ek
        obtain ⟨w, ew⟩ : ∃ w, w = (nsL σ.s)[k] := ⟨_, rfl⟩
        have wm : w ∈ nsL σ.s := by rw [ew]; exact List.getElem_mem hk
        have wh := nsL_hi hw.1 wm
        obtain ⟨g3, x3, f3, o3, v3⟩ := c_measureEdges n1.1.1.1 hw.1 em m8 b
        have n3 := cin_m n1 f3
        obtain ⟨v', x4, e4⟩ := c_measureNet (g := g3) (E := eM1 σ.s m b.toInt) (w := w) (n := nS σ.s) c v3 o3 wh
        obtain ⟨o, eo⟩ : ∃ o, o = (fnV (eM1 σ.s m b.toInt) (nS σ.s) w c.toInt).2.2 := ⟨_, rfl⟩
        rw [← eo] at x4 e4
        have ic := cin_ci (cin_m n3 (fr_mt g3 v' o))
        have fc := fr_tr f1 (fr_tr (fr_mc f3) (fr_mc (fr_mt g3 v' o)))
        have cc : zev mX11_ofNet 0 [.ref 3, .int (nI k), .int b, .int c] g = cond o (zaL (zev mX11_longFinding 0 [.ref 3, .int 7] (mset g3 v' o)) fun x4 g3 => some (some (.long x4), g3)) (some (some (.long v'), mset g3 v' o)) := by
          rw [uX11_ofNet_0, c_isRule, zaI_some, decide_eq_true q1, c_isFold, zaI_some, decide_eq_true q2, x1, zaI_some, q3, x3, zaV_some, zin_n (by omega : k < 800) (by omega), nI_clamp (by omega : k < 2 ^ 31), n3.2.1.2 k hk, ← ew, x4, zaV_some, mset_3, mset_2, bI_0]
          cases o <;> rfl
        have rr : ∀ g', RI g' σ → ∃ g2 u, zFr tR g' (rset g2 o) ∧ RI (rset g2 o) σ ∧ (o = false → u = v') ∧ zev mX12_ofNet 0 [.ref 250, .int (nI k), .int b, .int c] g' = cond o (zaL (zev mX12_findsLong 0 [.ref 250, .int 7] (rset g2 o)) fun x4 g3 => some (some (.long x4), g3)) (some (some (.long u), rset g2 o)) := fun g' r => by
          obtain ⟨g2, x2, f2, n2⟩ := r_isNet hw r (nI k)
          obtain ⟨u, x5, e5⟩ := r_folded (w := w) n2.1.1 hw.1 em m8 wh b c false
          rw [Bool.false_or, ← eo] at x5 e5
          refine ⟨g2, u, fr_tr f2 (fr_rs g2 o), ri_rs (rin_ri n2) hw o, fun z => (e5 z).trans (e4 z).symm, ?_⟩
          rw [uX12_ofNet_0, r_inI g' b (lo := 0) (l := 0) (hi := 6) (h := 6) rfl rfl, zaI_some, decide_eq_true q1, r_inI g' c (lo := 0) (l := 0) (hi := 3) (h := 3) rfl rfl, zaI_some, decide_eq_true q2, x2, zaI_some, q3, zin_n (by omega : k < 5000) (by omega), nI_clamp (by omega : k < 2 ^ 31), show (zsI g2 250 21 0).2 297 k = lN w from by rw [ew]; exact n2.2.2.2 k hk, show zsI g2 250 21 0 = rset g2 false from rfl, x5, zaL_some, rset_v, bI_0]
          cases o <;> rfl
        cases o with
        | true =>
          refine ⟨fL 7, fdn σ 7, wfs_fdn hw 7, ?_, fun g' r => ?_⟩
          · show COk (zev mX11_ofNet 0 _ g) _ _ _ _
            rw [cc]
            exact cok_le (cok_findL (k := 7) ic fc (by omega)) (by omega : t + 1 ≤ t + 2)
          · show ROk (zev mX12_ofNet 0 _ g') _ _ _
            obtain ⟨g2, u, f2, r2, _, e2⟩ := rr g' r
            rw [e2]
            exact rok_findL (k := 7) r2 hw f2 (by omega)
        | false =>
          refine ⟨.long v', σ, hw, ?_, fun g' r => ?_⟩
          · show COk (zev mX11_ofNet 0 _ g) _ _ _ _
            rw [cc]
            exact cok_of ic fc (by omega)
          · show ROk (zev mX12_ofNet 0 _ g') _ _ _
            obtain ⟨g2, u, f2, r2, eu, e2⟩ := rr g' r
            rw [e2, eu rfl]
            exact rok_of r2 f2
    · refine ⟨fL 0, fdn σ 0, wfs_fdn hw 0, ?_, fun g' r => ?_⟩
      · show COk (zev mX11_ofNet 0 _ g) _ _ _ _
        rw [uX11_ofNet_0, c_isRule, zaI_some, decide_eq_true q1, c_isFold, zaI_some, decide_eq_false q2]
        exact cok_le (cok_findL (k := 0) h (fr_refl _ g) (by omega)) (by omega : t ≤ t + 2)
      · show ROk (zev mX12_ofNet 0 _ g') _ _ _
        rw [uX12_ofNet_0, r_inI g' b (lo := 0) (l := 0) (hi := 6) (h := 6) rfl rfl, zaI_some, decide_eq_true q1, r_inI g' c (lo := 0) (l := 0) (hi := 3) (h := 3) rfl rfl, zaI_some, decide_eq_false q2]
        exact rok_findL (k := 0) r hw (fr_refl tR g') (by omega)
  · refine ⟨fL 0, fdn σ 0, wfs_fdn hw 0, ?_, fun g' r => ?_⟩
    · show COk (zev mX11_ofNet 0 _ g) _ _ _ _
      rw [uX11_ofNet_0, c_isRule, zaI_some, decide_eq_false q1]
      exact cok_le (cok_findL (k := 0) h (fr_refl _ g) (by omega)) (by omega : t ≤ t + 2)
    · show ROk (zev mX12_ofNet 0 _ g') _ _ _
      rw [uX12_ofNet_0, r_inI g' b (lo := 0) (l := 0) (hi := 6) (h := 6) rfl rfl, zaI_some, decide_eq_false q1]
      exact rok_findL (k := 0) r hw (fr_refl tR g') (by omega)
/-! the best -/
def bsV (V : Nat → Bool × Int64 × Bool) : Nat → Nat → Int32 × Int64 → Int32 × Bool
  | 0, _, p => (p.1, false)
  | j + 1, k, p => cond (V k).2.2 (-1, true) (bsV V j (k + 1) (cond (decide (p.1 < 0) || decide ((V k).2.1.toInt < p.2.toInt)) (nI k, (V k).2.1) p))
theorem bsV_ge {V : Nat → Bool × Int64 × Bool} : ∀ (j k i : Nat) (v : Int64), k + j ≤ 5000 → i ≤ 5000 → (bsV V j k (nI i, v)).2 = false → ∃ i', i' ≤ 5000 ∧ (bsV V j k (nI i, v)).1 = nI i'
  | 0, k, i, v, _, hi, _ => ⟨i, hi, rfl⟩
  | j + 1, k, i, v, hk, hi, h => by
    have h' : (cond (V k).2.2 ((-1 : Int32), true) (bsV V j (k + 1) (cond (decide (nI i < 0) || decide ((V k).2.1.toInt < v.toInt)) (nI k, (V k).2.1) (nI i, v)))).2 = false := h
    show ∃ i', i' ≤ 5000 ∧ (cond (V k).2.2 ((-1 : Int32), true) (bsV V j (k + 1) (cond (decide (nI i < 0) || decide ((V k).2.1.toInt < v.toInt)) (nI k, (V k).2.1) (nI i, v)))).1 = nI i'
    cases o : (V k).2.2 with
    | true => rw [o] at h'; exact absurd (show true = false from h') (by decide)
    | false =>
      rw [o] at h'
      cases z : (decide (nI i < 0) || decide ((V k).2.1.toInt < v.toInt)) with
      | true =>
        rw [z] at h'
        exact bsV_ge j (k + 1) k _ (by omega) (by omega) h'
      | false =>
        rw [z] at h'
        exact bsV_ge j (k + 1) i v (by omega) hi h'
section
variable {g : zIJ} {s : Nat → Int32} {m : Nat}
theorem c_least {E : Nat → Int64 × Bool} {n : Nat} {L : List Nat} (fold : Int32) (hv : ∀ f, f < 36 → eHi f < n → g.2 233 f = (E f).1) (h1 : g.2 232 1 = lN (ovM E n 36)) (hL : NLd g L) (l8 : L.length ≤ 800) (hw : ∀ w, w ∈ L → ∀ f, f < 36 → w.testBit f = true → eHi f < n) : ∀ (j k : Nat) (p : Int32 × Int64) (v : Int64) (o : Bool), k + j = L.length → ∃ v' o', zev mX2_leastOf 8 [.ref 232, .ref 219, .int fold, .int p.1, .long p.2, .int (nI k)] (mset g v o) = some (some (.int (bsV (fun i => fnV E n (L.getD i 0) fold.toInt) j k p).1), mset g v' o')
  | 0, k, p, v, o, e => by
    refine ⟨v, o, ?_⟩
    rw [uX2_leastOf_8, mset_o (by omega) 7, hL.1, decide_eq_true (nI_le (by omega : L.length ≤ k) (by omega))]; rfl
  | j + 1, k, p, v, o, e => by
    have hk : k < L.length := by omega
    have mem : L[k] ∈ L := List.getElem_mem hk
    obtain ⟨v1, x1, e1⟩ := c_measureNet (g := mset g v o) (E := E) (w := L[k]) (n := n) fold (fun f hf hh => by rw [mset_o2 (by omega)]; exact hv f hf hh) (by rw [mset_o2 (by omega)]; exact h1) (hw _ mem)
    have gd : L.getD k 0 = L[k] := getD_at L k hk
    rw [mset_m] at x1
    have st : ∃ v' o', zev mX2_leastOf 8 [.ref 232, .ref 219, .int fold, .int p.1, .long p.2, .int (nI k)] (mset g v o) = some (some (.int (cond (fnV E n (L.getD k 0) fold.toInt).2.2 ((-1 : Int32), true) (bsV (fun i => fnV E n (L.getD i 0) fold.toInt) j (k + 1) (cond (decide (p.1 < 0) || decide ((fnV E n (L.getD k 0) fold.toInt).2.1.toInt < p.2.toInt)) (nI k, (fnV E n (L.getD k 0) fold.toInt).2.1) p))).1), mset g v' o') := by
      rw [gd, uX2_leastOf_8, mset_o (by omega) 7, hL.1, decide_eq_false (nI_ge (a := k) (b := L.length) hk (by omega)), zin_n (by omega : k < 800) (by omega), nI_clamp (by omega : k < 2 ^ 31), mset_o2 (by omega), hL.2 k hk, x1, zaV_some, mset_3, mset_2, bI_0]
      simp only [nI_1]
      cases q : (fnV E n L[k] fold.toInt).2.2 with
      | true => exact ⟨v1, true, rfl⟩
      | false =>
        have ev := e1 q
        rw [← ev, cmp_ge]
        by_cases z1 : p.1 < 0
        · rw [decide_eq_true z1]
          exact c_least fold hv h1 hL l8 hw j (k + 1) (nI k, v1) v1 false (by omega)
        · rw [decide_eq_false z1]
          by_cases z2 : v1.toInt < p.2.toInt
          · rw [decide_eq_true z2, decide_eq_false (show ¬ p.2.toInt ≤ v1.toInt by omega)]
            exact c_least fold hv h1 hL l8 hw j (k + 1) (nI k, v1) v1 false (by omega)
          · rw [decide_eq_false z2, decide_eq_true (show p.2.toInt ≤ v1.toInt by omega)]
            exact c_least fold hv h1 hL l8 hw j (k + 1) p v1 false (by omega)
    exact st
theorem r_best {L : List Nat} (h : RBo g 251 s) (hW : Wf s) (hm : s 1 = nI m) (m8 : m ≤ 8) (r fold : Int32) (hL : RLd g L) (l8 : L.length ≤ 800) (hw : ∀ w, w ∈ L → ∀ f, f < 36 → w.testBit f = true → eHi f < nS s) : ∀ (j k i : Nat) (v : Int64) (o : Bool), k + j = L.length → i ≤ 800 → zev mX12_best 71 [.ref 250, .int r, .int fold, .int (nI i), .long v, .int (nI k)] (rset g o) = cond (o || (bsV (fun i => fnV (eM1 s m r.toInt) (nS s) (L.getD i 0) fold.toInt) j k (nI i, v)).2) (zaI (zev mX12_finds 0 [.ref 250, .int 7] (rset g true)) fun x2 g1 => some (some (.int x2), g1)) (some (some (.int (bsV (fun i => fnV (eM1 s m r.toInt) (nS s) (L.getD i 0) fold.toInt) j k (nI i, v)).1), rset g false))
  | 0, k, i, v, o, e, hi => by
    have : (rset g o).1 250 14 = nI L.length := (zI_col _ _ (by decide)).trans hL.1
    rw [uX12_best_71, this, decide_eq_true (nI_le (by omega : L.length ≤ k) (by omega)), rset_v, bI_0]
    cases o <;> rfl
  | j + 1, k, i, v, o, e, hi => by
    have hk : k < L.length := by omega
    have mem : L[k] ∈ L := List.getElem_mem hk
    have e14 : (rset g o).1 250 14 = nI L.length := (zI_col _ _ (by decide)).trans hL.1
    have e97 : (rset g o).2 297 k = lN L[k] := hL.2 k hk
    obtain ⟨v1, x1, e1⟩ := r_folded (w := L[k]) h hW hm m8 (hw _ mem) r fold o
    have gd : L.getD k 0 = L[k] := getD_at L k hk
    have i0 : decide (nI i < 0) = false := decide_eq_false (nI_n0 (by omega))
    have st : zev mX12_best 71 [.ref 250, .int r, .int fold, .int (nI i), .long v, .int (nI k)] (rset g o) = cond (o || (cond (fnV (eM1 s m r.toInt) (nS s) (L.getD k 0) fold.toInt).2.2 ((-1 : Int32), true) (bsV (fun i => fnV (eM1 s m r.toInt) (nS s) (L.getD i 0) fold.toInt) j (k + 1) (cond (decide (nI i < 0) || decide ((fnV (eM1 s m r.toInt) (nS s) (L.getD k 0) fold.toInt).2.1.toInt < v.toInt)) (nI k, (fnV (eM1 s m r.toInt) (nS s) (L.getD k 0) fold.toInt).2.1) (nI i, v)))).2) (zaI (zev mX12_finds 0 [.ref 250, .int 7] (rset g true)) fun x2 g1 => some (some (.int x2), g1)) (some (some (.int (cond (fnV (eM1 s m r.toInt) (nS s) (L.getD k 0) fold.toInt).2.2 ((-1 : Int32), true) (bsV (fun i => fnV (eM1 s m r.toInt) (nS s) (L.getD i 0) fold.toInt) j (k + 1) (cond (decide (nI i < 0) || decide ((fnV (eM1 s m r.toInt) (nS s) (L.getD k 0) fold.toInt).2.1.toInt < v.toInt)) (nI k, (fnV (eM1 s m r.toInt) (nS s) (L.getD k 0) fold.toInt).2.1) (nI i, v)))).1), rset g false)) := by
      rw [gd, uX12_best_71, e14, decide_eq_false (nI_ge (a := k) (b := L.length) hk (by omega)), zin_n (by omega : k < 5000) (by omega), nI_clamp (by omega : k < 2 ^ 31), e97, x1, zaL_some, cmp_lt, i0]
      simp only [nI_1]
      cases q : (o || (fnV (eM1 s m r.toInt) (nS s) L[k] fold.toInt).2.2) with
      | true =>
        have rt : ∀ i' v', i' ≤ 800 → zev mX12_best 71 [.ref 250, .int r, .int fold, .int (nI i'), .long v', .int (nI (k + 1))] (rset g true) = (zaI (zev mX12_finds 0 [.ref 250, .int 7] (rset g true)) fun x2 g1 => some (some (.int x2), g1)) := fun i' v' hi' => by
          rw [r_best h hW hm m8 r fold hL l8 hw j (k + 1) i' v' true (by omega) hi']; rfl
        rw [rt k v1 (by omega), rt i v hi]
        cases o with
        | true => cases decide (v1.toInt < v.toInt) <;> rfl
        | false =>
          have q' : (fnV (eM1 s m r.toInt) (nS s) L[k] fold.toInt).2.2 = true := q
          rw [q']
          cases decide (v1.toInt < v.toInt) <;> rfl
      | false =>
        have q1 : o = false := by cases o; rfl; exact absurd q (by simp)
        subst q1
        have q' : (fnV (eM1 s m r.toInt) (nS s) L[k] fold.toInt).2.2 = false := q
        have ev := e1 q
        rw [← ev, q']
        by_cases z : v1.toInt < v.toInt
        · rw [decide_eq_true z]
          exact r_best h hW hm m8 r fold hL l8 hw j (k + 1) k v1 false (by omega) (by omega)
        · rw [decide_eq_false z]
          exact r_best h hW hm m8 r fold hL l8 hw j (k + 1) i v false (by omega) hi
    exact st
end
theorem p_best (a b : Int32) : PairC (fun g => zev mX11_best 0 [.ref 3, .int a, .int b] g) (fun g => zev mX12_best 0 [.ref 250, .int a, .int b] g) := by
  intro σ g t hw h ht
  obtain ⟨m, m8, em⟩ := hw.1.2.2.2.2
  have l8 := (nsL_ok hw.1).1
  by_cases q1 : 0 ≤ a.toInt ∧ a.toInt ≤ 6
  · by_cases q2 : 0 ≤ b.toInt ∧ b.toInt ≤ 3
    · obtain ⟨g1, x1, f1, n1⟩ := c_fN hw h ht
      by_cases q3 : (nsL σ.s).length = 0
      · refine ⟨fI 3, fdn σ 3, wfs_fdn hw 3, ?_, fun g' r => ?_⟩
        · show COk (zev mX11_best 0 _ g) _ _ _ _
          rw [uX11_best_0, c_isRule, zaI_some, decide_eq_true q1, c_isFold, zaI_some, decide_eq_true q2, x1, zaV_some, n1.2.1.1, q3]
          exact cok_le (cok_find (k := 3) (cin_ci n1) f1 (by omega)) (by omega : t + 1 ≤ t + 2)
        · show ROk (zev mX12_best 0 _ g') _ _ _
          obtain ⟨g2, x2, f2, n2⟩ := r_lN hw r
          rw [uX12_best_0, r_inI g' a (lo := 0) (l := 0) (hi := 6) (h := 6) rfl rfl, zaI_some, decide_eq_true q1, r_inI g' b (lo := 0) (l := 0) (hi := 3) (h := 3) rfl rfl, zaI_some, decide_eq_true q2, x2, zaV_some, n2.2.2.1, q3]
          exact rok_find (k := 3) (rin_ri n2) hw f2 (by omega)
      · have d0 : decide (nI (nsL σ.s).length = 0) = false := by rw [show (0 : Int32) = nI 0 from rfl, nI_de (by omega) (by omega), decide_eq_false q3]
        have wh : ∀ w, w ∈ nsL σ.s → ∀ f, f < 36 → w.testBit f = true → eHi f < nS σ.s := fun w wm => nsL_hi hw.1 wm
        obtain ⟨g3, x3, f3, o3, v3⟩ := c_measureEdges n1.1.1.1 hw.1 em m8 a
        have n3 := cin_m n1 f3
        obtain ⟨V, eV⟩ : ∃ V, V = fun i => fnV (eM1 σ.s m a.toInt) (nS σ.s) ((nsL σ.s).getD i 0) b.toInt := ⟨_, rfl⟩
        have ms : g3 = mset g3 (g3.2 232 2) (cdec (g3.1 232 3 = 1)) ∨ True := Or.inr trivial
        obtain ⟨v0, x40, e40⟩ := c_measureNet (g := g3) (E := eM1 σ.s m a.toInt) (w := (nsL σ.s)[0]'(by omega)) (n := nS σ.s) b v3 o3 (wh _ (List.getElem_mem _))
        have g0 : (nsL σ.s).getD 0 0 = (nsL σ.s)[0]'(by omega) := getD_at _ 0 (by omega)
        have V0 : V 0 = fnV (eM1 σ.s m a.toInt) (nS σ.s) ((nsL σ.s)[0]'(by omega)) b.toInt := by rw [eV]; show fnV _ _ ((nsL σ.s).getD 0 0) _ = _; rw [g0]
        rw [← V0] at x40 e40
        obtain ⟨B, eB⟩ : ∃ B, B = bsV V ((nsL σ.s).length - 1) 1 (nI 0, (V 0).2.1) := ⟨_, rfl⟩
        have lst : ∃ v' o', zev mX2_leastOf 0 [.ref 232, .ref 219, .int b] g3 = some (some (.int (cond (V 0).2.2 (-1) B.1)), mset g3 v' o') := by
          rw [uX2_leastOf_0, show (0 : Int32) = nI 0 from rfl, uX2_leastOf_8, n3.2.1.1, decide_eq_false (nI_ge (a := 0) (b := (nsL σ.s).length) (by omega) (by omega)), zin_n (by omega : 0 < 800) (by omega), nI_clamp (by omega : 0 < 2 ^ 31), n3.2.1.2 0 (by omega), x40, zaV_some, mset_3, mset_2, bI_0]
          cases q : (V 0).2.2 with
          | true => exact ⟨v0, true, rfl⟩
          | false =>
            have ev := e40 q
            obtain ⟨v', o', x5⟩ := c_least (g := g3) (E := eM1 σ.s m a.toInt) (n := nS σ.s) (L := nsL σ.s) b v3 o3 n3.2.1 l8 wh ((nsL σ.s).length - 1) 1 (nI 0, v0) v0 false (by omega)
            refine ⟨v', o', ?_⟩
            rw [← eV, ev, ← eB] at x5
            rw [ev]
            exact x5
        obtain ⟨v', o', x4⟩ := lst
        have ic := cin_ci (cin_m n3 (fr_mt g3 v' o'))
        have fc := fr_tr f1 (fr_tr (fr_mc f3) (fr_mc (fr_mt g3 v' o')))
        obtain ⟨ov, eov⟩ : ∃ ov, ov = ((V 0).2.2 || B.2) := ⟨_, rfl⟩
        have bm : ∀ (V : Nat → Bool × Int64 × Bool) (j k : Nat) (p : Int32 × Int64), (bsV V j k p).2 = true → (bsV V j k p).1 = -1 := by
          intro V j
          induction j with
          | zero => intro k p z; exact absurd z (by simp [bsV])
          | succ j ih =>
            intro k p z
            have z' : (cond (V k).2.2 ((-1 : Int32), true) (bsV V j (k + 1) (cond (decide (p.1 < 0) || decide ((V k).2.1.toInt < p.2.toInt)) (nI k, (V k).2.1) p))).2 = true := z
            show (cond (V k).2.2 ((-1 : Int32), true) (bsV V j (k + 1) (cond (decide (p.1 < 0) || decide ((V k).2.1.toInt < p.2.toInt)) (nI k, (V k).2.1) p))).1 = -1
            cases q : (V k).2.2 with
            | true => rfl
            | false => rw [q] at z'; exact ih (k + 1) _ z'
        have rr : ∀ g', RI g' σ → ∃ g2, zFr tR g' g2 ∧ RI g2 σ ∧ zev mX12_best 0 [.ref 250, .int a, .int b] g' = cond ov (zaI (zev mX12_finds 0 [.ref 250, .int 7] (rset g2 true)) fun x4 g3 => some (some (.int x4), g3)) (some (some (.int B.1), rset g2 false)) := fun g' r => by
          obtain ⟨g2, x2, f2, n2⟩ := r_lN hw r
          obtain ⟨u, x5, e5⟩ := r_folded (w := (nsL σ.s)[0]'(by omega)) n2.1.1 hw.1 em m8 (wh _ (List.getElem_mem _)) a b false
          rw [← V0, Bool.false_or] at x5 e5
          refine ⟨g2, f2, rin_ri n2, ?_⟩
          rw [uX12_best_0, r_inI g' a (lo := 0) (l := 0) (hi := 6) (h := 6) rfl rfl, zaI_some, decide_eq_true q1, r_inI g' b (lo := 0) (l := 0) (hi := 3) (h := 3) rfl rfl, zaI_some, decide_eq_true q2, x2, zaV_some, n2.2.2.1, d0, show (0 : Int32).toNatClampNeg = 0 from rfl, show (zsI g2 250 21 0).2 297 0 = lN ((nsL σ.s)[0]'(by omega)) from n2.2.2.2 0 (by omega), show zsI g2 250 21 0 = rset g2 false from rfl, x5, zaL_some]
          show zev mX12_best 71 [.ref 250, .int a, .int b, .int (nI 0), .long u, .int (nI 1)] (rset g2 (V 0).2.2) = _
          rw [r_best n2.1.1 hw.1 em m8 a b n2.2.2 l8 wh ((nsL σ.s).length - 1) 1 0 u (V 0).2.2 (by omega) (by omega), ← eV, eov]
          cases q : (V 0).2.2 with
          | true => rfl
          | false =>
            rw [e5 q, ← eB]
        cases q : ov with
        | true =>
          have neg : cond (V 0).2.2 (-1) B.1 = -1 := by
            cases z : (V 0).2.2 with
            | true => rfl
            | false =>
              rw [z, q] at eov
              show B.1 = -1
              rw [eB]
              exact bm V _ _ _ (by rw [← eB]; exact eov.symm)
          refine ⟨fI 7, fdn σ 7, wfs_fdn hw 7, ?_, fun g' r => ?_⟩
          · show COk (zev mX11_best 0 _ g) _ _ _ _
            rw [uX11_best_0, c_isRule, zaI_some, decide_eq_true q1, c_isFold, zaI_some, decide_eq_true q2, x1, zaV_some, n1.2.1.1, d0, x3, zaV_some, x4, zaI_some, neg]
            exact cok_le (cok_find (k := 7) ic fc (by omega)) (by omega : t + 1 ≤ t + 2)
          · show ROk (zev mX12_best 0 _ g') _ _ _
            obtain ⟨g2, f2, r2, e2⟩ := rr g' r
            rw [e2, q]
            exact rok_find (k := 7) (ri_rs r2 hw true) hw (fr_tr f2 (fr_rs g2 true)) (by omega)
        | false =>
          have z0 : (V 0).2.2 = false := by
            cases z : (V 0).2.2 with
            | false => rfl
            | true => rw [z, q] at eov; exact absurd eov (by simp)
          have B2 : B.2 = false := by rw [z0, q] at eov; exact eov.symm
          obtain ⟨i', hi', ei⟩ : ∃ i', i' ≤ 5000 ∧ B.1 = nI i' := by
            rw [eB]
            exact bsV_ge _ _ _ _ (by omega) (by omega) (by rw [← eB]; exact B2)
          refine ⟨.int B.1, σ, hw, ?_, fun g' r => ?_⟩
          · show COk (zev mX11_best 0 _ g) _ _ _ _
            rw [uX11_best_0, c_isRule, zaI_some, decide_eq_true q1, c_isFold, zaI_some, decide_eq_true q2, x1, zaV_some, n1.2.1.1, d0, x3, zaV_some, x4, zaI_some, z0]
            show COk (cond (decide (0 ≤ B.1)) (some (some (Value.int B.1), mset g3 v' o')) _) _ _ _ _
            rw [ei, nI_0le (by omega)]
            exact cok_of ic fc (by omega)
          · show ROk (zev mX12_best 0 _ g') _ _ _
            obtain ⟨g2, f2, r2, e2⟩ := rr g' r
            rw [e2, q]
            exact rok_of (ri_rs r2 hw false) (fr_tr f2 (fr_rs g2 false))
    · refine ⟨fI 0, fdn σ 0, wfs_fdn hw 0, ?_, fun g' r => ?_⟩
      · show COk (zev mX11_best 0 _ g) _ _ _ _
        rw [uX11_best_0, c_isRule, zaI_some, decide_eq_true q1, c_isFold, zaI_some, decide_eq_false q2]
        exact cok_le (cok_find (k := 0) h (fr_refl _ g) (by omega)) (by omega : t ≤ t + 2)
      · show ROk (zev mX12_best 0 _ g') _ _ _
        rw [uX12_best_0, r_inI g' a (lo := 0) (l := 0) (hi := 6) (h := 6) rfl rfl, zaI_some, decide_eq_true q1, r_inI g' b (lo := 0) (l := 0) (hi := 3) (h := 3) rfl rfl, zaI_some, decide_eq_false q2]
        exact rok_find (k := 0) r hw (fr_refl tR g') (by omega)
  · refine ⟨fI 0, fdn σ 0, wfs_fdn hw 0, ?_, fun g' r => ?_⟩
    · show COk (zev mX11_best 0 _ g) _ _ _ _
      rw [uX11_best_0, c_isRule, zaI_some, decide_eq_false q1]
      exact cok_le (cok_find (k := 0) h (fr_refl _ g) (by omega)) (by omega : t ≤ t + 2)
    · show ROk (zev mX12_best 0 _ g') _ _ _
      rw [uX12_best_0, r_inI g' a (lo := 0) (l := 0) (hi := 6) (h := 6) rfl rfl, zaI_some, decide_eq_false q1]
      exact rok_find (k := 0) r hw (fr_refl tR g') (by omega)
