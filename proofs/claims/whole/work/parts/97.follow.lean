/-! The class's plane follows the board. -/
/-- points that can stand: near, apart, no three on a line; nothing behind the last -/
def Pts (X Y : Nat → Int) (n : Nat) : Prop := n ≤ 9 ∧ Near X Y n ∧ GP X Y n ∧ Dist X Y n ∧ ∀ i, n ≤ i → X i = 0 ∧ Y i = 0
/-- the plane is right for its own points -/
def POK (g : zIJ) (n : Nat) (X Y : Nat → Int) : Prop := PX g n X Y ∧ Pts X Y n ∧ (∀ i, i < n → g.1 215 i = nI (plc X Y n i)) ∧ (∀ i, i < n → g.1 214 (plc X Y n i) = nI i) ∧ PL g n X Y ∧ (∀ e, e < 36 → g.2 217 e = lN (crM X Y n e)) ∧ ∃ m s, Hul X Y n m s ∧ PH g m s
/-- what the plane touches -/
def tPl (k _j : Nat) : Bool := Nat.ble 211 k && Nat.ble k 218
theorem cpI_row (g : zIJ) (a sp d dp n j : Nat) : (zcpI g a sp d dp n).1 d j = if dp ≤ j ∧ j < dp + n then g.1 a (sp + (j - dp)) else g.1 d j := by
  unfold zcpI
  show zrow g.1 d (va_cpy (g.1 a) (g.1 d) sp dp n) d j = _
  rw [zrow_self]
  rfl
theorem cpI_oth (g : zIJ) (a sp d dp n : Nat) {k : Nat} (h : k ≠ d) : (zcpI g a sp d dp n).1 k = g.1 k := by
  unfold zcpI
  show zrow g.1 d (va_cpy (g.1 a) (g.1 d) sp dp n) k = _
  exact zrow_other h
theorem fr_cpI {t : Nat → Nat → Bool} (g : zIJ) (a sp d dp n : Nat) (h : ∀ j, t d j = true) : zFr t g (zcpI g a sp d dp n) := by
  intro k j q
  refine ⟨?_, rfl⟩
  by_cases e : k = d
  · rw [e, h j] at q; cases q
  · rw [cpI_oth g a sp d dp n e]
section
variable {g : zIJ} {n : Nat} {X Y : Nat → Int}
theorem pok_of {g' : zIJ} (h : POK g n X Y) (f : ∀ k j, 211 ≤ k → k ≤ 218 → ¬ (k = 211 ∧ j = 10) → g'.1 k j = g.1 k j ∧ g'.2 k j = g.2 k j) : POK g' n X Y := by
  obtain ⟨h1, h2, h3, h4, h5, h6, m, s, h7, h8⟩ := h
  refine ⟨px_of h1 (f 211 7 (by omega) (by omega) (by omega)).1 (funext fun j => (f 212 j (by omega) (by omega) (by omega)).1) (funext fun j => (f 213 j (by omega) (by omega) (by omega)).1), h2, fun i hi => ?_, fun i hi => ?_, fun a b ha hb nab => ?_, fun e he => ?_, m, s, h7, ?_, ?_, fun k hk => ?_⟩
  · rw [(f 215 i (by omega) (by omega) (by omega)).1]; exact h3 i hi
  · rw [(f 214 _ (by omega) (by omega) (by omega)).1]; exact h4 i hi
  · rw [(f 218 _ (by omega) (by omega) (by omega)).1]; exact h5 a b ha hb nab
  · rw [(f 217 e (by omega) (by omega) (by omega)).2]; exact h6 e he
  · rw [(f 211 8 (by omega) (by omega) (by omega)).1]; exact h8.1
  · rw [(f 211 9 (by omega) (by omega) (by omega)).1]; exact h8.2.1
  · rw [(f 216 k (by omega) (by omega) (by omega)).1]; exact h8.2.2 k hk
theorem c_follow {n' : Nat} {X' Y' : Nat → Int} (hp : POK g n' X' Y') (hb : CB g n X Y) (hq : Pts X Y n) : ∃ g', zev mX5_follow 0 [.ref 211, .ref 4] g = some (none, g') ∧ POK g' n X Y ∧ zFr tPl g g' ∧ ((g' = g ∧ n' = n ∧ X' = X ∧ Y' = Y) ∨ g'.1 211 10 = g.1 211 10 + 1) := by
  obtain ⟨q1, hN, hG, hd, hz⟩ := hq
  have hN' := hp.2.1.2.1
  rw [uX5_follow_0, c_isOf hp.1 hb hN' hN, zaI_some, bI_0]
  by_cases e : n' = n ∧ ∀ i, i < n' → X' i = X i ∧ Y' i = Y i
  · rw [cdec_t e]
    obtain ⟨e1, e2⟩ := e
    subst e1
    have eX : X' = X := funext fun i => by
      by_cases k : i < n'
      · exact (e2 i k).1
      · rw [(hp.2.1.2.2.2.2 i (by omega)).1, (hz i (by omega)).1]
    have eY : Y' = Y := funext fun i => by
      by_cases k : i < n'
      · exact (e2 i k).2
      · rw [(hp.2.1.2.2.2.2 i (by omega)).2, (hz i (by omega)).2]
    subst eX
    subst eY
    exact ⟨g, rfl, hp, fr_refl _ g, Or.inl ⟨rfl, rfl, rfl, rfl⟩⟩
  · rw [cdec_f e]
    have f1 : zFr tPl g (zcpI (zcpI (zsI g 211 7 (g.1 4 4)) 5 0 212 0 9) 6 0 213 0 9) := fr_tr (fr_tr (fr_I g _ rfl) (fr_cpI _ 5 0 212 0 9 (fun j => rfl))) (fr_cpI _ 6 0 213 0 9 (fun j => rfl))
    have p1 : PX (zcpI (zcpI (zsI g 211 7 (g.1 4 4)) 5 0 212 0 9) 6 0 213 0 9) n X Y := by
      refine ⟨q1, ?_, fun i hi => ⟨?_, ?_⟩⟩
      · rw [cpI_oth _ _ _ _ _ _ (by decide : (211 : Nat) ≠ 213), cpI_oth _ _ _ _ _ _ (by decide : (211 : Nat) ≠ 212), zI_same]
        exact hb.2.1
      · rw [cpI_oth _ _ _ _ _ _ (by decide : (212 : Nat) ≠ 213), cpI_row, if_pos (by omega), zI_row _ _ (by decide : (5 : Nat) ≠ 211), show 0 + (i - 0) = i from by omega]
        exact (hb.2.2 i hi).1
      · rw [cpI_row, if_pos (by omega), cpI_oth _ _ _ _ _ _ (by decide : (6 : Nat) ≠ 212), zI_row _ _ (by decide : (6 : Nat) ≠ 211), show 0 + (i - 0) = i from by omega]
        exact (hb.2.2 i hi).2
    have a1 : (zcpI (zcpI (zsI g 211 7 (g.1 4 4)) 5 0 212 0 9) 6 0 213 0 9).1 211 10 = g.1 211 10 := by
      rw [cpI_oth _ _ _ _ _ _ (by decide : (211 : Nat) ≠ 213), cpI_oth _ _ _ _ _ _ (by decide : (211 : Nat) ≠ 212), zI_col _ _ (by decide : (10 : Nat) ≠ 7)]
    show ∃ g', (zaV (zev mX5_findOrder 0 [.ref 211] (zcpI (zcpI (zsI g 211 7 (g.1 4 4)) 5 0 212 0 9) 6 0 213 0 9)) fun g3 => zaV (zev mX5_findSides 0 [.ref 211, .ref 4] g3) fun g4 => zaV (zev mX5_findCrossings 0 [.ref 211, .ref 4] g4) fun g5 => zaV (zev mX5_findHull 0 [.ref 211] g5) fun g6 => some (none, zsI g6 211 10 (g6.1 211 10 + 1))) = some (none, g') ∧ _
    generalize zcpI (zcpI (zsI g 211 7 (g.1 4 4)) 5 0 212 0 9) 6 0 213 0 9 = g1 at f1 p1 a1
    have cbf : ∀ {g' : zIJ}, zFr tPl g g' → CB g' n X Y := fun f => cb_of hb (funext fun j => (f 4 j rfl).1) (funext fun j => (f 5 j rfl).1) (funext fun j => (f 6 j rfl).1)
    obtain ⟨g2, e2, f2, o2, o2'⟩ := c_findOrder p1 hN hd
    have t2 : zFr tPl g1 g2 := fr_le f2 (fun a b k => by
      unfold tOr
      have : a ≠ 214 := fun e => by subst e; cases k
      have : a ≠ 215 := fun e => by subst e; cases k
      rw [nbeq_f (by assumption), nbeq_f (by assumption)]; rfl)
    have p2 : PX g2 n X Y := px_of p1 (f2 211 7 rfl).1 (funext fun j => (f2 212 j rfl).1) (funext fun j => (f2 213 j rfl).1)
    obtain ⟨g3, e3, f3, l3⟩ := c_sides p2 (cbf (fr_tr f1 t2)) hN hG
    have t3 : zFr tPl g2 g3 := fr_le f3 (fun a b k => by
      unfold tSd
      have : a ≠ 218 := fun e => by subst e; cases k
      exact nbeq_f this)
    have p3 := sd_px p2 f3
    obtain ⟨g4, e4, f4, l4⟩ := c_findCrossings p3 (cbf (fr_tr (fr_tr f1 t2) t3)) hN hG
    have t4 : zFr tPl g3 g4 := fr_le f4 (fun a b k => by
      unfold tXr
      have : a ≠ 217 := fun e => by subst e; cases k
      exact nbeq_f this)
    have p4 := xr_px p3 f4
    have pl4 : PL g4 n X Y := fun a b ha hb' nab => ((f4 218 _ rfl).1).trans (l3 a b ha hb' nab)
    obtain ⟨m, s, hH⟩ := hul_ex hG hd
    have h0 : 1 ≤ n → g4.1 214 0 = nI (s 0) := by
      intro hn1
      rcases hH with ⟨k1, _⟩ | ⟨k1, _⟩
      · omega
      · have := o2' (s 0) k1.1
        rw [plc_0 k1] at this
        rw [(f4 214 0 rfl).1, (f3 214 0 rfl).1]
        exact this
    obtain ⟨g5, e5, f5, l5⟩ := c_findHull p4 pl4 hG hH h0
    have t5 : zFr tPl g4 g5 := fr_le f5 (fun a b k => by
      unfold tHu
      have n1 : a ≠ 216 := fun e => by subst e; cases k
      have n2 : a ≠ 211 := fun e => by subst e; cases k
      rw [nbeq_f n1, nbeq_f n2]; rfl)
    have p5 : PX g5 n X Y := px_of p4 (f5 211 7 rfl).1 (funext fun j => (f5 212 j rfl).1) (funext fun j => (f5 213 j rfl).1)
    have ag : g5.1 211 10 = g.1 211 10 := by
      rw [(f5 211 10 rfl).1, (f4 211 10 rfl).1, (f3 211 10 rfl).1, (f2 211 10 rfl).1, a1]
    have ok5 : POK g5 n X Y := by
      refine ⟨p5, ⟨q1, hN, hG, hd, hz⟩, fun i hi => ?_, fun i hi => ?_, fun a b ha hb' nab => ?_, fun e he => ?_, m, s, hH, l5⟩
      · rw [(f5 215 i rfl).1, (f4 215 i rfl).1, (f3 215 i rfl).1]; exact o2 i hi
      · rw [(f5 214 _ rfl).1, (f4 214 _ rfl).1, (f3 214 _ rfl).1]; exact o2' i hi
      · rw [(f5 218 _ rfl).1]; exact pl4 a b ha hb' nab
      · rw [(f5 217 e rfl).2]; exact l4 e he
    rw [e2, zaV_some, e3, zaV_some, e4, zaV_some, e5, zaV_some]
    refine ⟨_, rfl, pok_of ok5 (fun k j _ _ nj => ⟨?_, rfl⟩), fr_tr (fr_tr f1 (fr_tr t2 (fr_tr t3 (fr_tr t4 t5)))) (fr_I g5 _ rfl), Or.inr ?_⟩
    · rw [zI_at, if_neg nj]
    · rw [zI_same, ag]
end
