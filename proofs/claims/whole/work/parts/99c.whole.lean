/-! The class finds all nets. -/
theorem sorted_ext : ∀ (L M : List Nat), L.Pairwise (fun a b => a < b) → M.Pairwise (fun a b => a < b) → (∀ x, x ∈ L ↔ x ∈ M) → L = M
  | [], [], _, _, _ => rfl
  | [], b :: M, _, _, h => by have := (h b).mpr List.mem_cons_self; cases this
  | a :: L, [], _, _, h => by have := (h a).mp List.mem_cons_self; cases this
  | a :: L, b :: M, hL, hM, h => by
    obtain ⟨l1, l2⟩ := List.pairwise_cons.mp hL
    obtain ⟨m1, m2⟩ := List.pairwise_cons.mp hM
    have e : a = b := by
      rcases List.mem_cons.mp ((h a).mp List.mem_cons_self) with q | q
      · exact q
      · rcases List.mem_cons.mp ((h b).mpr List.mem_cons_self) with q2 | q2
        · exact q2.symm
        · have := m1 a q
          have := l1 b q2
          omega
    subst e
    have t : ∀ x, x ∈ L ↔ x ∈ M := by
      intro x
      constructor
      · intro q
        have := l1 x q
        rcases List.mem_cons.mp ((h x).mp (List.mem_cons_of_mem _ q)) with q2 | q2
        · omega
        · exact q2
      · intro q
        have := m1 x q
        rcases List.mem_cons.mp ((h x).mpr (List.mem_cons_of_mem _ q)) with q2 | q2
        · omega
        · exact q2
    rw [sorted_ext L M l2 m2 t]
theorem sum01 {p : Nat → Bool} : ∀ n, sumR (fun i => cond (p i) 1 0) n = 1 → ∃ f, f < n ∧ p f = true ∧ ∀ i, i < n → p i = true → i = f
  | 0, h => by cases h
  | n + 1, h => by
    have h : sumR (fun i => cond (p i) 1 0) n + cond (p n) 1 0 = 1 := h
    cases q : p n with
    | true =>
      rw [q] at h
      have z : sumR (fun i => cond (p i) 1 0) n = 0 := by
        have h : sumR (fun i => cond (p i) 1 0) n + 1 = 1 := h
        omega
      refine ⟨n, by omega, q, fun i hi hp => ?_⟩
      apply Classical.byContradiction
      intro ne
      have := sumR_lt (h := fun _ => 0) (k := fun i => cond (p i) 1 0) n (fun j _ => Nat.zero_le _) ⟨i, by omega, by rw [hp]; decide⟩
      omega
    | false =>
      rw [q] at h
      obtain ⟨f, f1, f2, f3⟩ := sum01 n h
      refine ⟨f, by omega, f2, fun i hi hp => ?_⟩
      by_cases e : i = n
      · rw [e, q] at hp; cases hp
      · exact f3 i (by omega) hp
theorem bc_one {x : Nat} (hx : x < 2 ^ 36) : bcN x = 1 ↔ ∃ f, x = 2 ^ f := by
  constructor
  · intro h
    obtain ⟨f, f1, f2, f3⟩ := sum01 40 h
    have f36 := t_36 hx f2
    refine ⟨f, bit_ext (n := 36) hx (Nat.pow_lt_pow_right (by omega) f36) (fun i hi => ?_)⟩
    by_cases e : i = f
    · subst e; rw [f2, Nat.testBit_two_pow_self]
    · rw [Nat.testBit_two_pow_of_ne (Ne.symm e)]
      cases q : x.testBit i with
      | false => rfl
      | true => exact (e (f3 i (by omega) q)).elim
  · intro ⟨f, e⟩
    subst e
    have f36 : f < 36 := t_36 hx (Nat.testBit_two_pow_self)
    have := sumR_one (h := fun i => cond ((2 ^ f).testBit i) 1 0) (k := fun _ => 0) (j := f) 40 (by omega) (fun i _ ne => by
      show cond ((2 ^ f).testBit i) 1 0 = 0
      rw [Nat.testBit_two_pow_of_ne (Ne.symm ne)]; rfl) (by
      show cond ((2 ^ f).testBit f) 1 0 = 0 + 1
      rw [Nat.testBit_two_pow_self]; rfl)
    have z : ∀ n, sumR (fun _ => 0) n = 0 := by
      intro n
      induction n with
      | zero => rfl
      | succ n ih => unfold sumR; rw [ih]
    unfold bcN
    rw [this, z]
section
variable {g : zIJ} {n : Nat} {X Y : Nat → Int}
theorem c_greedy (h : POK g n X Y) : zev mX3_greedyNet 0 [.ref 211] g = some (some (.long (lN (itr (fun e m => grd X Y n e m) 36 0 0))), g) := by
  have hn := h.1.1
  rw [uX3_greedyNet_0]
  refine zit (F := fun e m => zev mX3_greedyNet 4 [.ref 211, .long (lN m), .int (nI e)] g) (lo := 0) (n := 36) (R := fun m => some (some (.long (lN m)), g)) (h := fun e m => grd X Y n e m) (fun e m _ he => ?_) (fun m => ?_) 36 0 0 (Nat.le_refl _) (by omega)
  · obtain ⟨l1, l2, l3, l4, l5⟩ := edge_of he
    rw [uX3_greedyNet_4, lit36 he, zin_n he (by omega), nI_clamp (by omega), h.1.2.1, l5, cmp_eq, h.2.2.2.2.2.1 e he, lN_and, lN_0 (and_lt36 (crM_lt e)), bit_l (by omega), lN_or, ← nbeq_d]
    simp only [nI_1]
    unfold grd
    by_cases q : eHi e < n
    · rw [decide_eq_false (nI_ge q (by omega)), decide_eq_true q]
      cases Nat.beq (crM X Y n e &&& m) 0 with
      | true => rfl
      | false =>
        show zev mX3_greedyNet 4 [.ref 211, .long (lN m), .int (nI (e + 1))] g = zev mX3_greedyNet 4 [.ref 211, .long (lN (m ||| 0)), .int (nI (e + 1))] g
        rw [or_zero]
    · rw [decide_eq_true (nI_le (by omega : n ≤ eHi e) (by omega)), decide_eq_false q]
      show zev mX3_greedyNet 4 [.ref 211, .long (lN m), .int (nI (e + 1))] g = zev mX3_greedyNet 4 [.ref 211, .long (lN (m ||| 0)), .int (nI (e + 1))] g
      rw [or_zero]
  · rw [uX3_greedyNet_4]; rfl
/-- all met are nets -/
def AllN (X Y : Nat → Int) (n : Nat) (L : List Nat) : Prop := ∀ t, t ∈ L → t < 2 ^ 36 ∧ Net (oXY X Y) (List.range n) (Em t)
theorem room_of (hG : GP X Y n) (hd : Dist X Y n) (h3 : 3 ≤ n) (hn : n ≤ 9) {L : List Nat} (hs : L.Pairwise (fun a b => a < b)) (hL : AllN X Y n L) {x : Nat} (hx : x < 2 ^ 36 ∧ Net (oXY X Y) (List.range n) (Em x)) (hm : x ∉ L) : L.length < 800 := by
  have all : AllN X Y n (x :: L) := fun t ht => by
    rcases List.mem_cons.mp ht with e | e
    · rw [e]; exact hx
    · exact hL t e
  have := cnt800 (E := Em) hG hd h3 hn (x :: L) (fun t ht => (all t ht).2) (List.nodup_cons.mpr ⟨hm, hs.imp (fun h => by omega)⟩) (fun s t hs ht q => em_inj hG (all s hs).1 (all t ht).1 (all s hs).2 (all t ht).2 q)
  rw [List.length_cons] at this
  omega
theorem nw_pok (h : POK g n X Y) {g' : zIJ} (f : zFr tNw g g') : POK g' n X Y := pok_of h (fun k j k1 k2 _ => f k j (by
  unfold tNw
  rw [nbeq_f (by omega), nbeq_f (by omega), nbeq_f (by omega)]; rfl))
/-- the flips of W k by edges below e are met -/
def Clo (X Y : Nat → Int) (n : Nat) (L : List Nat) (t e : Nat) : Prop := ∀ e' f, e' < e → crM X Y n e' &&& t = 2 ^ f → (t ^^^ 2 ^ f ^^^ 2 ^ e') ∈ L
theorem c_whole (hp : POK g n X Y) (h3 : 3 ≤ n) : ∃ g' W, zev mX3_findWhole 0 [.ref 219, .ref 211] g = some (none, g') ∧ zFr tNw g g' ∧ NW g' (netL X Y n 0 0) W := by
  have hn := hp.1.1
  obtain ⟨_, hN, hG, hd, _⟩ := hp.2.1
  have f0 : zFr tNw g (zsI g 219 2 0) := fr_I g 0 rfl
  have i0 : (zsI g 219 2 0).1 219 2 = nI 0 := zI_same _ _ _ _
  have e7 : (zsI g 219 2 0).1 211 7 = nI n := by rw [zI_row _ _ (by decide : (211 : Nat) ≠ 219)]; exact hp.1.2.1
  rw [uX3_findWhole_0, e7, show decide ((3 : Int32) ≤ nI n) = true from decide_eq_true (nI_le (a := 3) (b := n) h3 (by omega))]
  generalize zsI g 219 2 0 = g0 at f0 i0
  have nw0 : NW g0 [] [] := ⟨i0, by simp, fun i hi => by simp at hi, List.Pairwise.nil, fun x hx => (by cases hx), rfl, fun i hi => by simp at hi, fun x => Iff.rfl⟩
  show ∃ g' W, (zaL (zev mX3_greedyNet 0 [.ref 211] g0) fun x2 g1 => zaV (zev mX3_meet 0 [.ref 219, .long x2] g1) fun g3 => zev mX3_findWhole 24 [.ref 219, .ref 211, .int 0] g3) = some (none, g') ∧ _
  rw [c_greedy (nw_pok hp f0), zaL_some]
  obtain ⟨b1, _, b3⟩ := grd_all (X := X) (Y := Y) (n := n) (base := 0) ⟨by omega, fun e he => by simp at he, fun e f he => by simp at he⟩
  have t0n := ncm_net hG hn b1 b3
  have t0l := b1.1
  generalize itr (fun e m => grd X Y n e m) 36 0 0 = t0 at t0n t0l
  obtain ⟨g1, L1, W1, m1, m2, m3, m4, m5⟩ := c_meet nw0 t0l (fun _ => by simp)
  rw [m1, zaV_some]
  have all1 : AllN X Y n L1 := fun t ht => by
    rcases (m4 t).mp ht with e | e
    · rw [e]; exact ⟨t0l, t0n⟩
    · cases e
  have fin : ∀ (L W : List Nat), L.Pairwise (fun a b => a < b) → AllN X Y n L → t0 ∈ L → (∀ x, x ∈ W ↔ x ∈ L) → (∀ t, t ∈ W → Clo X Y n L t 36) → L = netL X Y n 0 0 := by
    intro L W s1 s2 s3 s4 s5
    refine sorted_ext L _ s1 (netL_sorted 0 0) (fun x => ?_)
    rw [netL_mem hG hn (fun k hk => by simp at hk)]
    constructor
    · intro q
      exact ⟨(s2 x q).1, (s2 x q).2, fun k hk => by simp at hk, fun k hk => by simp at hk⟩
    · intro ⟨q1, q2, _, _⟩
      exact closed_all hG hd hn s3 s2 (fun t e f ht he hx => s5 t ((s4 t).mpr ht) e f he hx) q1 q2
  -- the loop
  have run : ∀ (d k : Nat) (g2 : zIJ) (L W : List Nat), k + d = 800 → zFr tNw g g2 → NW g2 L W → AllN X Y n L → t0 ∈ L → k ≤ L.length → (∀ i (h : i < W.length), i < k → Clo X Y n L W[i] 36) → ∃ g' W', zev mX3_findWhole 24 [.ref 219, .ref 211, .int (nI k)] g2 = some (none, g') ∧ zFr tNw g g' ∧ NW g' (netL X Y n 0 0) W' := by
    intro d
    induction d with
    | zero =>
      intro k g2 L W hk f2 nw al tin kl clo
      have : L.length = k := by have := nw.2.1; omega
      refine ⟨g2, W, ?_, f2, ?_⟩
      · rw [uX3_findWhole_24, nw.1, decide_eq_true (nI_le (by omega) (by omega))]; rfl
      · have := fin L W nw.2.2.2.1 al tin nw.2.2.2.2.2.2.2 (fun t ht => by
          obtain ⟨i, hi, e⟩ := List.getElem_of_mem ht
          rw [← e]
          have := nw.2.2.2.2.2.1
          exact clo i hi (by omega))
        rw [← this]; exact nw
    | succ d ih =>
      intro k g2 L W hk f2 nw al tin kl clo
      by_cases q : L.length ≤ k
      · refine ⟨g2, W, ?_, f2, ?_⟩
        · rw [uX3_findWhole_24, nw.1, decide_eq_true (nI_le q (by omega))]; rfl
        · have := fin L W nw.2.2.2.1 al tin nw.2.2.2.2.2.2.2 (fun t ht => by
            obtain ⟨i, hi, e⟩ := List.getElem_of_mem ht
            rw [← e]
            have := nw.2.2.2.2.2.1
            exact clo i hi (by omega))
          rw [← this]; exact nw
      · have hwl : W.length = L.length := nw.2.2.2.2.2.1
        have kw : k < W.length := by omega
        rw [uX3_findWhole_24, nw.1, decide_eq_false (nI_ge (by omega : k < L.length) (by have := nw.2.1; omega)), show decide ((800 : Int32) ≤ nI k) = false from decide_eq_false (nI_ge (a := k) (b := 800) (by omega) (by omega)), zin_n (by omega) (by omega), nI_clamp (by omega), nw.2.2.2.2.2.2.1 k kw]
        have tk := al W[k] ((nw.2.2.2.2.2.2.2 _).mp (List.getElem_mem kw))
        generalize hW : W[k] = t at tk
        show ∃ g' W', zev mX3_findWhole 49 [.ref 219, .ref 211, .int (nI k), .long (lN t), .int (nI 0)] g2 = some (none, g') ∧ _
        refine zloop (σ := zIJ) (F := fun e g3 => zev mX3_findWhole 49 [.ref 219, .ref 211, .int (nI k), .long (lN t), .int (nI e)] g3) (I := fun e g3 => ∃ L W, zFr tNw g g3 ∧ NW g3 L W ∧ AllN X Y n L ∧ t0 ∈ L ∧ k < L.length ∧ (∃ h : k < W.length, W[k] = t) ∧ (∀ i (h : i < W.length), i < k → Clo X Y n L W[i] 36) ∧ Clo X Y n L t e) (Post := fun r => ∃ g' W', r = some (none, g') ∧ zFr tNw g g' ∧ NW g' (netL X Y n 0 0) W') (lo := 0) (n := 36) (fun e g3 _ he I3 => ?_) (fun g3 I3 => ?_) 36 0 g2 (Nat.le_refl _) (by omega) ⟨L, W, f2, nw, al, tin, by omega, ⟨kw, hW⟩, clo, fun e' f h => by omega⟩
        · obtain ⟨L3, W3, f3, nw3, al3, tin3, k3, hk3, clo3, ce3⟩ := I3
          have p3 := nw_pok hp f3
          have lt : crM X Y n e &&& t < 2 ^ 36 := Nat.lt_of_le_of_lt Nat.and_le_right tk.1
          rw [uX3_findWhole_49, lit36 he, zin_n he (by omega), nI_clamp (by omega), p3.2.2.2.2.2.1 e he, lN_and, j_bitCount g3 (by omega), zaI_some]
          simp only [nI_1]
          by_cases one : bcN (crM X Y n e &&& t) = 1
          · obtain ⟨f, hf⟩ := (bc_one lt).mp one
            have fl := flip_net hG hd hn tk.1 tk.2 he hf
            rw [one, show decide (nI 1 = (1 : Int32)) = true from rfl, hf, lN_xor', bit_l (by omega), lN_xor']
            obtain ⟨g4, L4, W4, e4, f4, nw4, mem4, keep4⟩ := c_meet nw3 fl.1 (fun hm => room_of hG hd h3 hn nw3.2.2.2.1 al3 ⟨fl.1, fl.2.1⟩ hm)
            have up : ∀ y, y ∈ L3 → y ∈ L4 := fun y hy => (mem4 y).mpr (Or.inr hy)
            refine ⟨g4, ?_, L4, W4, fr_tr f3 f4, nw4, fun y hy => ?_, up t0 tin3, ?_, ?_, fun i hi hik => ?_, fun e' f' he' hx' => ?_⟩
            · show (zaV (zev mX3_meet 0 [.ref 219, .long (lN (t ^^^ 2 ^ f ^^^ 2 ^ e))] g3) _) = _
              rw [e4, zaV_some]
            · rcases (mem4 y).mp hy with k | k
              · rw [k]; exact ⟨fl.1, fl.2.1⟩
              · exact al3 y k
            · obtain ⟨h', _⟩ := keep4 k hk3.1
              have := nw4.2.2.2.2.2.1
              omega
            · obtain ⟨hk0, hk1⟩ := hk3
              obtain ⟨h', e'⟩ := keep4 k hk0
              exact ⟨h', e'.trans hk1⟩
            · have wl3 := nw3.2.2.2.2.2.1
              have hi3 : i < W3.length := by omega
              obtain ⟨h', e'⟩ := keep4 i hi3
              rw [e']
              exact fun a b c d => up _ (clo3 i hi3 hik a b c d)
            · by_cases c : e' = e
              · subst c
                have : f' = f := by
                  have h2 := hx'.symm.trans hf
                  apply Classical.byContradiction
                  intro ne
                  have := congrArg (fun z => z.testBit f) h2
                  simp only [Nat.testBit_two_pow_self, Nat.testBit_two_pow_of_ne ne] at this
                  cases this
                rw [this]
                exact (mem4 _).mpr (Or.inl rfl)
              · exact up _ (ce3 e' f' (by omega) hx')
          · rw [show decide (nI (bcN (crM X Y n e &&& t)) = (1 : Int32)) = false from decide_eq_false (fun q => one ((nI_eq (a := bcN (crM X Y n e &&& t)) (b := 1) (by
              have : bcN (crM X Y n e &&& t) ≤ 40 * 1 := sumR_c 40 (fun i _ => by cases (crM X Y n e &&& t).testBit i <;> decide)
              omega) (by omega)).mp q))]
            refine ⟨g3, rfl, L3, W3, f3, nw3, al3, tin3, k3, hk3, clo3, fun e' f' he' hx' => ?_⟩
            by_cases c : e' = e
            · subst c
              exact (one ((bc_one lt).mpr ⟨f', hx'⟩)).elim
            · exact ce3 e' f' (by omega) hx'
        · obtain ⟨L3, W3, f3, nw3, al3, tin3, k3, hk3, clo3, ce3⟩ := I3
          have nx : zev mX3_findWhole 49 [.ref 219, .ref 211, .int (nI k), .long (lN t), .int (nI 36)] g3 = zev mX3_findWhole 24 [.ref 219, .ref 211, .int (nI (k + 1))] g3 := by
            rw [uX3_findWhole_49, nI_1]; rfl
          rw [nx]
          exact ih (k + 1) g3 L3 W3 (by omega) f3 nw3 al3 tin3 (by omega) (fun i hi hik => by
            by_cases c : i = k
            · subst c
              obtain ⟨h', e'⟩ := hk3
              rw [e']; exact ce3
            · exact clo3 i hi (by omega))
  exact run 800 0 g1 L1 W1 (by omega) (fr_tr f0 m2) m3 all1 ((m4 t0).mpr (Or.inl rfl)) (by omega) (fun i hi hik => by omega)
end
