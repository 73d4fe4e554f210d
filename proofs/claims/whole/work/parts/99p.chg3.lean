/-! place, move, drop, mark. -/
theorem crs_cg {o o' : Nat → Nat → Nat → Bool} {n a b c d : Nat} (h : ∀ x y z, x < n → y < n → z < n → o' x y z = o x y z) (ha : a < n) (hb : b < n) (hc : c < n) (hd : d < n) : crs o' a b c d = crs o a b c d := by
  unfold crs
  rw [h a b c ha hb hc, h a b d ha hb hd, h c d a hc hd ha, h c d b hc hd hb]
def mvX (X : Nat → Int) (p : Nat) (x : Int) : Nat → Int := fun i => if i = p then x else X i
theorem mv_p (X : Nat → Int) (p : Nat) (x : Int) : mvX X p x p = x := if_pos rfl
theorem mv_o {X : Nat → Int} {p i : Nat} {x : Int} (h : i ≠ p) : mvX X p x i = X i := if_neg h
theorem wf_mc {s : Nat → Int32} (h : Wf s) : ¬ MC (XS s) (YS s) s := by
  intro ⟨e, f, he, hf, q1, q2, q3⟩
  rw [h.2.2.2.1 e f he hf q1 q2] at q3
  exact absurd q3 (by decide)
theorem mc_f {X Y : Nat → Int} {s : Nat → Int32} (h : ¬ MC X Y s) : ∀ e f, e < 36 → f < 36 → s (20 + e) = 1 → s (20 + f) = 1 → crs (oXY X Y) (eLo e) (eHi e) (eLo f) (eHi f) = false := by
  intro e f he hf q1 q2
  cases z : crs (oXY X Y) (eLo e) (eHi e) (eLo f) (eHi f) with
  | false => rfl
  | true => exact absurd ⟨e, f, he, hf, q1, q2, z⟩ h
theorem mk_hi {s : Nat → Int32} {n e : Nat} (hm : MksOK s n) (he : e < 36) (q : s (20 + e) = 1) : eHi e < n := by
  refine Nat.lt_of_not_le (fun z => ?_)
  have := (hm e he).2 z
  rw [q] at this
  exact absurd this (by decide)
theorem mc_cg {X Y X' Y' : Nat → Int} {s s' : Nat → Int32} {n : Nat} (hm : MksOK s n) (e : ∀ k, k < 36 → s' (20 + k) = s (20 + k)) (ex : ∀ i, i < n → X' i = X i ∧ Y' i = Y i) : MC X' Y' s' ↔ MC X Y s := by
  have o : ∀ x y z, x < n → y < n → z < n → oXY X' Y' x y z = oXY X Y x y z := fun x y z hx hy hz => by
    unfold oXY dt
    rw [(ex x hx).1, (ex x hx).2, (ex y hy).1, (ex y hy).2, (ex z hz).1, (ex z hz).2]
  have key : ∀ a b, a < 36 → b < 36 → s (20 + a) = 1 → s (20 + b) = 1 → crs (oXY X' Y') (eLo a) (eHi a) (eLo b) (eHi b) = crs (oXY X Y) (eLo a) (eHi a) (eLo b) (eHi b) := fun a b ha hb q1 q2 => by
    have h1 := mk_hi hm ha q1
    have h2 := mk_hi hm hb q2
    have := (edge_of ha).1
    have := (edge_of hb).1
    exact crs_cg o (by omega) h1 (by omega) h2
  constructor
  · intro ⟨a, b, ha, hb, q1, q2, q3⟩
    rw [e a ha] at q1
    rw [e b hb] at q2
    exact ⟨a, b, ha, hb, q1, q2, by rw [← key a b ha hb q1 q2]; exact q3⟩
  · intro ⟨a, b, ha, hb, q1, q2, q3⟩
    exact ⟨a, b, ha, hb, by rw [e a ha]; exact q1, by rw [e b hb]; exact q2, by rw [key a b ha hb q1 q2]; exact q3⟩
theorem wf_pt {s s' : Nat → Int32} {p n' : Nat} {x y : Int} (h : Wf s) (hn' : n' ≤ 9) (hp : p < n') (hl : nS s ≤ n') (ho : ∀ i, i < n' → i ≠ p → i < nS s) (e0 : s' 0 = nI n') (ex : s' (2 + 2 * p) = cI x) (ey : s' (3 + 2 * p) = cI y) (eo : ∀ k, k ≠ 0 → k ≠ 2 + 2 * p → k ≠ 3 + 2 * p → s' k = s k) (hx : -99 ≤ x ∧ x ≤ 99) (hy : -99 ≤ y ∧ y ≤ 99) : nS s' = n' ∧ XS s' = mvX (XS s) p x ∧ YS s' = mvX (YS s) p y ∧ Near (mvX (XS s) p x) (mvX (YS s) p y) n' ∧ MksOK s n' ∧ (FreeM (XS s) (YS s) (nS s) p x y → ¬ MC (mvX (XS s) p x) (mvX (YS s) p y) s → Wf s') := by
  obtain ⟨h1, ⟨p1, p2, p3, p4, p5⟩, h3, h4, h5⟩ := h
  have n0 : nS s' = n' := by unfold nS; rw [e0]; exact nI_clamp (by omega)
  have x0 : XS s' = mvX (XS s) p x := by
    funext i
    unfold XS mvX
    rw [n0]
    show _ = if i = p then _ else if i < nS s then (s (2 + 2 * i)).toInt else 0
    by_cases q : i < n'
    · rw [if_pos q]
      by_cases e : i = p
      · rw [if_pos e, e, ex]; exact cI_toInt (by omega) (by omega)
      · rw [if_neg e, if_pos (ho i q e), eo _ (by omega) (by omega) (by omega)]
    · rw [if_neg q, if_neg (by omega), if_neg (by omega)]
  have y0 : YS s' = mvX (YS s) p y := by
    funext i
    unfold YS mvX
    rw [n0]
    show _ = if i = p then _ else if i < nS s then (s (3 + 2 * i)).toInt else 0
    by_cases q : i < n'
    · rw [if_pos q]
      by_cases e : i = p
      · rw [if_pos e, e, ey]; exact cI_toInt (by omega) (by omega)
      · rw [if_neg e, if_pos (ho i q e), eo _ (by omega) (by omega) (by omega)]
    · rw [if_neg q, if_neg (by omega), if_neg (by omega)]
  have near : Near (mvX (XS s) p x) (mvX (YS s) p y) n' := by
    intro i hi
    by_cases e : i = p
    · rw [e, mv_p, mv_p]; exact ⟨hx.1, hx.2, hy⟩
    · rw [mv_o e, mv_o e]; exact p2 i (ho i hi e)
  have mk : MksOK s n' := fun e he => ⟨(h3 e he).1, fun q => (h3 e he).2 (by omega)⟩
  refine ⟨n0, x0, y0, near, mk, fun hf hc => ?_⟩
  unfold Wf Pts
  rw [n0, x0, y0]
  have D1 : ∀ a b, a < n' → b < n' → a ≠ p → b ≠ p → a < b → dt (mvX (XS s) p x) (mvX (YS s) p y) a b p ≠ 0 := by
    intro a b ha hb na nb l
    have := (hf a (ho a ha na) na).2 b l (ho b hb nb) nb
    unfold dt
    rw [mv_p, mv_p, mv_o na, mv_o na, mv_o nb, mv_o nb]
    exact this
  have D : ∀ a b, a < n' → b < n' → a ≠ p → b ≠ p → a ≠ b → dt (mvX (XS s) p x) (mvX (YS s) p y) a b p ≠ 0 := by
    intro a b ha hb na nb nab
    rcases Nat.lt_or_ge a b with l | l
    · exact D1 a b ha hb na nb l
    · have := D1 b a hb ha nb na (by omega)
      rw [dt_sw b a p]
      omega
  refine ⟨e0, ⟨hn', near, fun a b c ha hb hc nab nac nbc => ?_, fun a b ha hb nab => ?_, fun i hi => ?_⟩, fun e he => ?_, fun e f he hf' q1 q2 => ?_, ?_⟩
  · by_cases ea : a = p
    · have nb : b ≠ p := fun z => nab (ea.trans z.symm)
      have nc : c ≠ p := fun z => nac (ea.trans z.symm)
      rw [ea, ← dt_rot p b c]
      exact D b c hb hc nb nc nbc
    · by_cases eb : b = p
      · have nc : c ≠ p := fun z => nbc (eb.trans z.symm)
        rw [eb, dt_rot c a p]
        exact D c a hc ha nc ea (fun z => nac z.symm)
      · by_cases ec : c = p
        · rw [ec]; exact D a b ha hb ea eb nab
        · unfold dt
          rw [mv_o ea, mv_o ea, mv_o eb, mv_o eb, mv_o ec, mv_o ec]
          exact p3 a b c (ho a ha ea) (ho b hb eb) (ho c hc ec) nab nac nbc
  · by_cases ea : a = p
    · have nb : b ≠ p := fun z => nab (ea.trans z.symm)
      have := (hf b (ho b hb nb) nb).1
      rw [ea, mv_p, mv_p, mv_o nb, mv_o nb]
      omega
    · by_cases eb : b = p
      · have := (hf a (ho a ha ea) ea).1
        rw [eb, mv_p, mv_p, mv_o ea, mv_o ea]
        omega
      · rw [mv_o ea, mv_o ea, mv_o eb, mv_o eb]
        exact p4 a b (ho a ha ea) (ho b hb eb) nab
  · rw [mv_o (by omega), mv_o (by omega)]; exact p5 i (by omega)
  · rw [eo (20 + e) (by omega) (by omega) (by omega)]; exact mk e he
  · rw [eo (20 + e) (by omega) (by omega) (by omega)] at q1
    rw [eo (20 + f) (by omega) (by omega) (by omega)] at q2
    exact mc_f hc e f he hf' q1 q2
  · obtain ⟨m, m8, em⟩ := h5
    exact ⟨m, m8, by rw [eo 1 (by omega) (by omega) (by omega)]; exact em⟩
theorem cbo_pt {g g' : zIJ} {s s' : Nat → Int32} {p : Nat} {x y : Int32} (h : CBo g 4 s) (hp : p < 9) (e0 : g'.1 4 4 = s' 0) (ex : s' (2 + 2 * p) = x) (ey : s' (3 + 2 * p) = y) (eo : ∀ k, k ≠ 0 → k ≠ 2 + 2 * p → k ≠ 3 + 2 * p → s' k = s k) (g5 : ∀ i, g'.1 5 i = if i = p then x else g.1 5 i) (g6 : ∀ i, g'.1 6 i = if i = p then y else g.1 6 i) (g4 : g'.1 4 5 = g.1 4 5) (g7 : ∀ i, g'.1 7 i = g.1 7 i ∧ g'.1 8 i = g.1 8 i) (g2 : g'.2 = g.2) : CBo g' 4 s' := by
  have m1 : ∀ v, mM s' v = mM s v := fun v => bit_ext (mM_lt _ _) (mM_lt _ _) (fun i hi => by rw [mM_at hi, mM_at hi, eo _ (by omega) (by omega) (by omega)])
  obtain ⟨h1, h2, h3, h4, h5, h6⟩ := h
  refine ⟨e0, ?_, fun i hi => ⟨?_, ?_⟩, fun i hi => ⟨?_, ?_⟩, ?_, ?_⟩
  · rw [g4, eo 1 (by omega) (by omega) (by omega)]; exact h2
  · rw [show g'.1 (4 + 1) i = _ from g5 i]
    by_cases e : i = p
    · rw [if_pos e, e, ex]
    · rw [if_neg e, eo _ (by omega) (by omega) (by omega)]; exact (h3 i hi).1
  · rw [show g'.1 (4 + 2) i = _ from g6 i]
    by_cases e : i = p
    · rw [if_pos e, e, ey]
    · rw [if_neg e, eo _ (by omega) (by omega) (by omega)]; exact (h3 i hi).2
  · rw [show g'.1 (4 + 3) i = _ from (g7 i).1, eo _ (by omega) (by omega) (by omega)]; exact (h4 i hi).1
  · rw [show g'.1 (4 + 4) i = _ from (g7 i).2, eo _ (by omega) (by omega) (by omega)]; exact (h4 i hi).2
  · rw [g2, m1]; exact h5
  · rw [g2, m1]; exact h6
theorem nI_m1 {a : Nat} (h : a < 2 ^ 31) : decide (nI a = -1) = false := decide_eq_false (fun z => by
  have := congrArg Int32.toInt z
  rw [nI_toInt h] at this
  have e : (-1 : Int32).toInt = -1 := rfl
  omega)
theorem p_place (a b : Int32) : PairC (fun g => zev mX11_place 0 [.ref 3, .int a, .int b] g) (fun g => zev mX12_place 0 [.ref 250, .int a, .int b] g) := by
  intro σ g t hw h ht
  have hn := wf_n hw.1
  have cb := cb_s h.1.1 hw.1
  have c4 := cb.2.1
  by_cases q1 : -99 ≤ a.toInt ∧ a.toInt ≤ 99
  · by_cases q2 : -99 ≤ b.toInt ∧ b.toInt ≤ 99
    · by_cases q3 : nS σ.s = 9
      · refine ⟨fI 1, fdn σ 1, wfs_fdn hw 1, ?_, fun g' r => ?_⟩
        · show COk (zev mX11_place 0 _ g) _ _ _ _
          rw [uX11_place_0, near_d, zaI_some, decide_eq_true q1, near_d, zaI_some, decide_eq_true q2, c4, q3]
          exact cok_le (cok_find (k := 1) h (fr_refl _ g) (by omega)) (by omega : t ≤ t + 2)
        · show ROk (zev mX12_place 0 _ g') _ _ _
          rw [uX12_place_0, r_isPlace, zaI_some, decide_eq_true q1, decide_eq_true q2, r_points (rb_s r.1.1 hw.1), zaI_some, q3]
          exact rok_find (k := 1) r hw (fr_refl tR g') (by omega)
      · obtain ⟨x, ex⟩ : ∃ x, x = a.toInt := ⟨_, rfl⟩
        obtain ⟨y, ey⟩ : ∃ y, y = b.toInt := ⟨_, rfl⟩
        have ea : a = cI x := by rw [ex]; exact (Int32.ofInt_toInt a).symm
        have eb : b = cI y := by rw [ey]; exact (Int32.ofInt_toInt b).symm
        rw [← ex] at q1
        rw [← ey] at q2
        have da : decide (-99 ≤ a.toInt ∧ a.toInt ≤ 99) = true := by rw [← ex]; exact decide_eq_true q1
        have db : decide (-99 ≤ b.toInt ∧ b.toInt ≤ 99) = true := by rw [← ey]; exact decide_eq_true q2
        obtain ⟨s', es⟩ : ∃ s' : Nat → Int32, s' = fun k => if k = 0 then nI (nS σ.s + 1) else if k = 2 + 2 * nS σ.s then a else if k = 3 + 2 * nS σ.s then b else σ.s k := ⟨_, rfl⟩
        have s0 : s' 0 = nI (nS σ.s + 1) := by rw [es]; rfl
        have sx : s' (2 + 2 * nS σ.s) = a := by rw [es]; show (if 2 + 2 * nS σ.s = 0 then _ else _) = _; rw [if_neg (by omega), if_pos rfl]
        have sy : s' (3 + 2 * nS σ.s) = b := by rw [es]; show (if 3 + 2 * nS σ.s = 0 then _ else _) = _; rw [if_neg (by omega), if_neg (by omega), if_pos rfl]
        have so : ∀ k, k ≠ 0 → k ≠ 2 + 2 * nS σ.s → k ≠ 3 + 2 * nS σ.s → s' k = σ.s k := fun k k1 k2 k3 => by
          rw [es]
          show (if k = 0 then _ else _) = _
          rw [if_neg k1, if_neg k2, if_neg k3]
        obtain ⟨w1, w2, w3, w4, w5, w6⟩ := wf_pt (p := nS σ.s) (n' := nS σ.s + 1) hw.1 (by omega) (by omega) (by omega) (fun i hi ni => by omega) s0 (sx.trans ea) (sy.trans eb) so q1 q2
        have hc : ¬ MC (mvX (XS σ.s) (nS σ.s) x) (mvX (YS σ.s) (nS σ.s) y) σ.s := fun z => wf_mc hw.1 ((mc_cg hw.1.2.2.1 (fun k _ => rfl) (fun i hi => ⟨mv_o (by omega), mv_o (by omega)⟩)).mp z)
        have cf : zev mX0_isFree 0 [.ref 4, .int a, .int b, .int (-1)] g = some (some (.int (bI (cdec (FreeM (XS σ.s) (YS σ.s) (nS σ.s) (nS σ.s) x y)))), g) := by
          rw [ea, eb]
          exact c_isFree cb hw.1.2.1.2.1 q1 q2 (fun i hi => by rw [nI_m1 (by omega), decide_eq_false (by omega)])
        have rpre : ∀ g', RI g' σ → ∃ g2, Mid g' g2 σ ∧ RBo g2 251 s' ∧ zev mX12_place 0 [.ref 250, .int a, .int b] g' = cond (cdec (FreeM (XS σ.s) (YS σ.s) (nS σ.s) (nS σ.s) x y)) (zaV (zev mX12_changes 0 [.ref 250] g2) fun g14 => zaI (zev mX12_points 0 [.ref 250] g14) fun x16 g15 => some (some (.int (x16 - 1)), g15)) (zaV (zev mX12_laysBack 0 [.ref 250] g2) fun g17 => zaI (zev mX12_finds 0 [.ref 250, .int 4] g17) fun x19 g18 => some (some (.int x19), g18)) := by
          intro g' r
          have rb := rb_s r.1.1 hw.1
          obtain ⟨g1, x1, m1, b1⟩ := mid_aside r
          have p1 : ∀ j v, j ≠ 0 → zev mX12_points 0 [.ref 250] (zsI g1 251 j v) = some (some (.int (nI (nS σ.s))), zsI g1 251 j v) := fun j v hj => by
            rw [uX12_points_0]
            show some (some (Value.int ((zsI g1 251 j v).1 251 0)), _) = _
            rw [zI_at, if_neg (by omega), b1 0 (by omega), hw.1.1]
          have p0 : zev mX12_points 0 [.ref 250] g1 = some (some (.int (nI (nS σ.s))), g1) := by
            rw [uX12_points_0]
            show some (some (Value.int (g1.1 251 0)), _) = _
            rw [b1 0 (by omega), hw.1.1]
          have bo : RBo (zsI (zsI (zsI g1 251 (2 + 2 * nS σ.s) a) 251 (3 + 2 * nS σ.s) b) 251 0 (nI (nS σ.s + 1))) 251 s' := by
            intro k hk
            rw [zI_at, zI_at, zI_at]
            by_cases k0 : k = 0
            · rw [if_pos ⟨rfl, k0⟩, k0, s0]
            · rw [if_neg (fun z => k0 z.2)]
              by_cases k3 : k = 3 + 2 * nS σ.s
              · rw [if_pos ⟨rfl, k3⟩, k3, sy]
              · rw [if_neg (fun z => k3 z.2)]
                by_cases k2 : k = 2 + 2 * nS σ.s
                · rw [if_pos ⟨rfl, k2⟩, k2, sx]
                · rw [if_neg (fun z => k2 z.2), so k k0 k2 k3]; exact b1 k hk
          refine ⟨_, mid_I (mid_I (mid_I m1 (2 + 2 * nS σ.s) a) (3 + 2 * nS σ.s) b) 0 (nI (nS σ.s + 1)), bo, ?_⟩
          rw [uX12_place_0, r_isPlace, zaI_some, da, db, r_points rb, zaI_some, show decide (nI (nS σ.s) = 9) = false from by rw [show (9 : Int32) = nI 9 from rfl, nI_de (by omega) (by omega), decide_eq_false q3], x1, zaV_some, p0, zaI_some, i_2 (by omega), zin_n (by omega : 2 + 2 * nS σ.s < 72) (by omega), nI_clamp (by omega : 2 + 2 * nS σ.s < 2 ^ 31), p1 _ _ (by omega), zaI_some, i_2 (by omega), i_21, zin_n (by omega : 3 + 2 * nS σ.s < 72) (by omega), nI_clamp (by omega : 3 + 2 * nS σ.s < 2 ^ 31), show (0 : Int32).toNatClampNeg = 0 from rfl, show (zsI (zsI g1 251 (2 + 2 * nS σ.s) a) 251 (3 + 2 * nS σ.s) b).1 251 0 = nI (nS σ.s) from by rw [zI_at, if_neg (by omega), zI_at, if_neg (by omega), b1 0 (by omega), hw.1.1], nI_1]
          generalize hG : zsI (zsI (zsI g1 251 (2 + 2 * nS σ.s) a) 251 (3 + 2 * nS σ.s) b) 251 0 (nI (nS σ.s + 1)) = G at bo ⊢
          have rG : RB G (nS σ.s + 1) (mvX (XS σ.s) (nS σ.s) x) (mvX (YS σ.s) (nS σ.s) y) := by
            refine ⟨by omega, by rw [bo 0 (by omega), s0], fun i hi => ?_⟩
            rw [bo _ (by omega), bo _ (by omega)]
            by_cases e : i = nS σ.s
            · rw [e, mv_p, mv_p, sx, sy]; exact ⟨ea, eb⟩
            · rw [mv_o e, mv_o e, so _ (by omega) (by omega) (by omega), so _ (by omega) (by omega) (by omega), (xs_in (by omega)).1, (xs_in (by omega)).2]; exact ⟨rfl, rfl⟩
          have fr := r_isFree rG w4 (by omega : nS σ.s < nS σ.s + 1)
          rw [mv_p, mv_p] at fr
          show zaI (zev mX12_points 0 [.ref 250] G) _ = _
          rw [r_points rG, zaI_some, show nI (nS σ.s + 1) - 1 = nI (nS σ.s) from nI_pred _, fr, zaI_some, bI_0, cdec_cg (q := FreeM (XS σ.s) (YS σ.s) (nS σ.s) (nS σ.s) x y) ⟨free_cg (fun i hi ni => ⟨by omega, mv_o ni, mv_o ni⟩), free_cg (fun i hi ni => ⟨by omega, (mv_o ni).symm, (mv_o ni).symm⟩)⟩]
          cases cdec (FreeM (XS σ.s) (YS σ.s) (nS σ.s) (nS σ.s) x y) <;> rfl
        by_cases q4 : FreeM (XS σ.s) (YS σ.s) (nS σ.s) (nS σ.s) x y
        · have wf' := w6 q4 hc
          refine ⟨.int (nI (nS σ.s)), pushed σ s', wfs_pushed hw wf', ?_, fun g' r => ?_⟩
          · show COk (zev mX11_place 0 _ g) _ _ _ _
            obtain ⟨g1, x1, f1, c1⟩ := c_keep h hw
            have d4 : g1.1 4 4 = nI (nS σ.s) := c1.1.1.1.trans hw.1.1
            rw [uX11_place_0, near_d, zaI_some, da, near_d, zaI_some, db, c4, show decide (nI (nS σ.s) < 9) = true from decide_eq_true (nI_lt (a := nS σ.s) (b := 9) (by omega) (by omega)), cf, zaI_some, cdec_t q4, x1, zaV_some, uX0_addPoint_0, d4, show decide (9 ≤ nI (nS σ.s)) = false from decide_eq_false (nI_ge (a := nS σ.s) (b := 9) (by omega) (by omega)), zin_n (by omega : nS σ.s < 9) (by omega), nI_clamp (by omega : nS σ.s < 2 ^ 31), show (zsI g1 5 (nS σ.s) a).1 4 4 = nI (nS σ.s) from d4, zin_n (by omega : nS σ.s < 9) (by omega), nI_clamp (by omega : nS σ.s < 2 ^ 31), show (zsI (zsI g1 5 (nS σ.s) a) 6 (nS σ.s) b).1 4 4 = nI (nS σ.s) from d4, nI_1]
            show COk (some (some (Value.int ((zsI (zsI (zsI g1 5 (nS σ.s) a) 6 (nS σ.s) b) 4 4 (nI (nS σ.s + 1))).1 4 4 - 1)), zsI (zsI (zsI g1 5 (nS σ.s) a) 6 (nS σ.s) b) 4 4 (nI (nS σ.s + 1)))) g _ _ _
            rw [zI_same, show nI (nS σ.s + 1) - 1 = nI (nS σ.s) from nI_pred _]
            have cb2 : CBo (zsI (zsI (zsI g1 5 (nS σ.s) a) 6 (nS σ.s) b) 4 4 (nI (nS σ.s + 1))) 4 s' := by
              refine cbo_pt (g' := zsI (zsI (zsI g1 5 (nS σ.s) a) 6 (nS σ.s) b) 4 4 (nI (nS σ.s + 1))) c1.1.1 (by omega : nS σ.s < 9) (by rw [zI_same, s0]) sx sy so (fun i => ?_) (fun i => ?_) ?_ (fun i => ⟨?_, ?_⟩) rfl
              · rw [zI_at, if_neg (by omega), zI_at, if_neg (by omega), zI_at]
                by_cases e : i = nS σ.s
                · rw [if_pos ⟨rfl, e⟩, if_pos e]
                · rw [if_neg (fun z => e z.2), if_neg e]
              · rw [zI_at, if_neg (by omega), zI_at]
                by_cases e : i = nS σ.s
                · rw [if_pos ⟨rfl, e⟩, if_pos e]
                · rw [if_neg (fun z => e z.2), if_neg e, zI_at, if_neg (by omega)]
              · rw [zI_at, if_neg (by omega), zI_at, if_neg (by omega), zI_at, if_neg (by omega)]
              · rw [zI_at, if_neg (by omega), zI_at, if_neg (by omega), zI_at, if_neg (by omega)]
              · rw [zI_at, if_neg (by omega), zI_at, if_neg (by omega), zI_at, if_neg (by omega)]
            exact cok_of (t := t) (ci_s (g' := zsI (zsI (zsI g1 5 (nS σ.s) a) 6 (nS σ.s) b) 4 4 (nI (nS σ.s + 1))) c1 (fun k j hk => ⟨by rw [zI_at, if_neg (by omega), zI_at, if_neg (by omega), zI_at, if_neg (by omega)], rfl⟩) cb2) (fr_tr f1 (fr_tr (fr_tr (fr_I g1 a rfl) (fr_I _ b rfl)) (fr_I _ (nI (nS σ.s + 1)) rfl))) (by omega)
          · show ROk (zev mX12_place 0 _ g') _ _ _
            obtain ⟨g2, m2, b2, e2⟩ := rpre g' r
            obtain ⟨g3, x3, f3, r3⟩ := mid_chg r hw m2 b2
            rw [e2, cdec_t q4]
            show ROk (zaV (zev mX12_changes 0 [.ref 250] g2) _) _ _ _
            rw [x3, zaV_some, r_points (rb_s r3.1.1 wf'), zaI_some]
            show ROk (some (some (Value.int (nI (nS s') - 1)), g3)) _ _ _
            rw [w1, show nI (nS σ.s + 1) - 1 = nI (nS σ.s) from nI_pred _]
            exact rok_of r3 f3
        · refine ⟨fI 4, fdn σ 4, wfs_fdn hw 4, ?_, fun g' r => ?_⟩
          · show COk (zev mX11_place 0 _ g) _ _ _ _
            rw [uX11_place_0, near_d, zaI_some, da, near_d, zaI_some, db, c4, show decide (nI (nS σ.s) < 9) = true from decide_eq_true (nI_lt (a := nS σ.s) (b := 9) (by omega) (by omega)), cf, zaI_some, cdec_f q4]
            exact cok_le (cok_find (k := 4) h (fr_refl _ g) (by omega)) (by omega : t ≤ t + 2)
          · show ROk (zev mX12_place 0 _ g') _ _ _
            obtain ⟨g2, m2, b2, e2⟩ := rpre g' r
            obtain ⟨g3, x3, f3, r3⟩ := mid_back r hw m2
            rw [e2, cdec_f q4]
            show ROk (zaV (zev mX12_laysBack 0 [.ref 250] g2) _) _ _ _
            rw [x3, zaV_some]
            exact rok_find (k := 4) r3 hw f3 (by omega)
    · refine ⟨fI 0, fdn σ 0, wfs_fdn hw 0, ?_, fun g' r => ?_⟩
      · show COk (zev mX11_place 0 _ g) _ _ _ _
        rw [uX11_place_0, near_d, zaI_some, decide_eq_true q1, near_d, zaI_some, decide_eq_false q2]
        exact cok_le (cok_find (k := 0) h (fr_refl _ g) (by omega)) (by omega : t ≤ t + 2)
      · show ROk (zev mX12_place 0 _ g') _ _ _
        rw [uX12_place_0, r_isPlace, zaI_some, decide_eq_true q1, decide_eq_false q2]
        exact rok_find (k := 0) r hw (fr_refl tR g') (by omega)
  · refine ⟨fI 0, fdn σ 0, wfs_fdn hw 0, ?_, fun g' r => ?_⟩
    · show COk (zev mX11_place 0 _ g) _ _ _ _
      rw [uX11_place_0, near_d, zaI_some, decide_eq_false q1]
      exact cok_le (cok_find (k := 0) h (fr_refl _ g) (by omega)) (by omega : t ≤ t + 2)
    · show ROk (zev mX12_place 0 _ g') _ _ _
      rw [uX12_place_0, r_isPlace, zaI_some, decide_eq_false q1]
      exact rok_find (k := 0) r hw (fr_refl tR g') (by omega)
