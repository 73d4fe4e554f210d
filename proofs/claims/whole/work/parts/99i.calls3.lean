/-! Calls: nets, net, rank, with, always, draw, seed, count, status, stepOf. -/
/-- both heaps are the same at the cells lo to hi -/
def Sm (lo hi : Nat) (g g' : zIJ) : Prop := ∀ k j, lo ≤ k → k ≤ hi → g'.1 k j = g.1 k j ∧ g'.2 k j = g.2 k j
section
variable {g g' : zIJ} {σ : zS} {s : Nat → Int32} {kp : Nat → Nat → Int32} {t : Nat}
theorem ci_1 (h : CBo g 4 s) (f : Sm 4 8 g g') : CBo g' 4 s := cbo_fr h (fun k j k1 k2 => f k j k1 (by omega))
theorem ci_2 (h : ∀ i, i < 40 → CBo g (11 + 5 * i) (kp i)) (f : Sm 11 210 g g') : ∀ i, i < 40 → CBo g' (11 + 5 * i) (kp i) := fun i hi => cbo_fr (h i hi) (fun k j k1 k2 => f k j (by omega) (by omega))
theorem ci_3 {a b : Nat} (h : g.1 9 1 = nI a ∧ g.1 9 2 = nI b) (f : Sm 9 9 g g') : g'.1 9 1 = nI a ∧ g'.1 9 2 = nI b := ⟨by rw [(f _ _ (by omega) (by omega)).1, h.1], by rw [(f _ _ (by omega) (by omega)).1, h.2]⟩
theorem ci_4 {z : Int32} (h : g.1 3 12 = z) (f : Sm 3 3 g g') : g'.1 3 12 = z := by rw [(f _ _ (by omega) (by omega)).1, h]
theorem ci_5 {fd : Nat → Int32} (h : ∀ k, k < 8 → g.1 241 k = fd k) (f : Sm 241 241 g g') : ∀ k, k < 8 → g'.1 241 k = fd k := fun k hk => by rw [(f _ _ (by omega) (by omega)).1, h k hk]
theorem ci_6 {rm : Nat} {row : Nat → Nat → Int32} (h : g.1 237 2 = nI rm ∧ ∀ i, i < rm → g.1 238 i = row i 0 ∧ g.1 239 i = row i 1) (f : Sm 237 239 g g') : g'.1 237 2 = nI rm ∧ ∀ i, i < rm → g'.1 238 i = row i 0 ∧ g'.1 239 i = row i 1 := ⟨by rw [(f _ _ (by omega) (by omega)).1, h.1], fun i hi => ⟨by rw [(f _ _ (by omega) (by omega)).1, (h.2 i hi).1], by rw [(f _ _ (by omega) (by omega)).1, (h.2 i hi).2]⟩⟩
theorem ci_7 {so : Nat → Int32} {si : Nat → Nat} {ce : Nat → Nat → Int64} (h : ∀ q, q < 4 → g.1 (242 + 2 * q) 1 = so q ∧ g.1 (242 + 2 * q) 2 = nI (si q) ∧ ∀ i, i < 40 → g.2 (243 + 2 * q) i = ce q i) (f : Sm 242 249 g g') : ∀ q, q < 4 → g'.1 (242 + 2 * q) 1 = so q ∧ g'.1 (242 + 2 * q) 2 = nI (si q) ∧ ∀ i, i < 40 → g'.2 (243 + 2 * q) i = ce q i := fun q hq => ⟨by rw [(f _ _ (by omega) (by omega)).1, (h q hq).1], by rw [(f _ _ (by omega) (by omega)).1, (h q hq).2.1], fun i hi => by rw [(f _ _ (by omega) (by omega)).2, (h q hq).2.2 i hi]⟩
theorem ci_c (h : ∃ n X Y, Cache g n X Y t) (f : Sm 211 236 g g') : ∃ n X Y, Cache g' n X Y t := by
  obtain ⟨n, X, Y, hc⟩ := h
  exact ⟨n, X, Y, cache_fr hc (fun k j k1 k2 _ => f k j k1 (by omega))⟩
theorem ri_1 (h : RBo g 251 s) (f : Sm 251 251 g g') : RBo g' 251 s := fun k hk => by rw [(f _ _ (by omega) (by omega)).1, h k hk]
theorem ri_2 (h : ∀ i, i < 40 → RBo g (253 + i) (kp i)) (f : Sm 253 292 g g') : ∀ i, i < 40 → RBo g' (253 + i) (kp i) := fun i hi k hk => by rw [(f _ _ (by omega) (by omega)).1, h i hi k hk]
theorem ri_5 {fd : Nat → Int32} (h : ∀ k, k < 8 → g.1 293 k = fd k) (f : Sm 293 293 g g') : ∀ k, k < 8 → g'.1 293 k = fd k := fun k hk => by rw [(f _ _ (by omega) (by omega)).1, h k hk]
theorem ri_6 {rm : Nat} {row : Nat → Nat → Int32} (h : ∀ i, i < rm → g.1 (302 + i) 0 = row i 0 ∧ g.1 (302 + i) 1 = row i 1) (hr : rm ≤ 13) (f : Sm 302 341 g g') : ∀ i, i < rm → g'.1 (302 + i) 0 = row i 0 ∧ g'.1 (302 + i) 1 = row i 1 := fun i hi => ⟨by rw [(f _ _ (by omega) (by omega)).1, (h i hi).1], by rw [(f _ _ (by omega) (by omega)).1, (h i hi).2]⟩
theorem ri_7 {so : Nat → Int32} {si : Nat → Nat} {ce : Nat → Nat → Int64} (h : ∀ q, q < 4 → g.1 342 q = so q ∧ g.1 343 q = nI (si q) ∧ ∀ i, i < 40 → g.2 (345 + q) i = ce q i) (f : Sm 342 348 g g') : ∀ q, q < 4 → g'.1 342 q = so q ∧ g'.1 343 q = nI (si q) ∧ ∀ i, i < 40 → g'.2 (345 + q) i = ce q i := fun q hq => ⟨by rw [(f _ _ (by omega) (by omega)).1, (h q hq).1], by rw [(f _ _ (by omega) (by omega)).1, (h q hq).2.1], fun i hi => by rw [(f _ _ (by omega) (by omega)).2, (h q hq).2.2 i hi]⟩
theorem sm_I (g : zIJ) {k j lo hi : Nat} (x : Int32) (h : k < lo ∨ hi < k) : Sm lo hi g (zsI g k j x) := fun a b h1 h2 => ⟨by rw [zI_at, if_neg (by omega)], rfl⟩
theorem sm_L (g : zIJ) {k j lo hi : Nat} (x : Int64) (h : k < lo ∨ hi < k) : Sm lo hi g (zsL g k j x) := fun a b h1 h2 => ⟨rfl, by rw [zL_at, if_neg (by omega)]⟩
theorem sm_fr {f : Nat → Nat → Bool} {lo hi : Nat} (h : zFr f g g') (k : ∀ a b, lo ≤ a → a ≤ hi → f a b = false) : Sm lo hi g g' := fun a b h1 h2 => h a b (k a b h1 h2)
theorem sm_tr {g'' : zIJ} {lo hi : Nat} (h : Sm lo hi g g') (k : Sm lo hi g' g'') : Sm lo hi g g'' := fun a b h1 h2 => ⟨(k a b h1 h2).1.trans (h a b h1 h2).1, (k a b h1 h2).2.trans (h a b h1 h2).2⟩
end
def setz (σ : zS) (v : Int32) : zS := zmk σ.s σ.kp σ.fi σ.un v σ.fd σ.rm σ.row σ.so σ.si σ.ce
theorem wfs_setz {σ : zS} (h : Wfs σ) (v : Int32) : Wfs (setz σ v) := h
theorem ci_z {g : zIJ} {σ : zS} {t : Nat} (h : CI g σ t) (v : Int32) : CI (zsI g 3 12 v) (setz σ v) t := by
  obtain ⟨⟨h1, h2, h3, h4, h5, h6, h7⟩, hc⟩ := h
  exact ⟨⟨ci_1 h1 (sm_I g v (by omega)), ci_2 h2 (sm_I g v (by omega)), ci_3 h3 (sm_I g v (by omega)), zI_same _ _ _ _, ci_5 h5 (sm_I g v (by omega)), ci_6 h6 (sm_I g v (by omega)), ci_7 h7 (sm_I g v (by omega))⟩, ci_c hc (sm_I g v (by omega))⟩
theorem ri_z {g : zIJ} {σ : zS} (hw : Wfs σ) (h : RI g σ) (v : Int32) : RI (zsI g 250 4 v) (setz σ v) := by
  obtain ⟨⟨h1, h2, h3, h4, h5, h6, h7⟩, hl⟩ := h
  refine ⟨⟨ri_1 h1 (sm_I g v (by omega)), ri_2 h2 (sm_I g v (by omega)), ⟨?_, ?_⟩, zI_same _ _ _ _, ri_5 h5 (sm_I g v (by omega)), ⟨?_, ri_6 h6.2 hw.2.2.2.2.1 (sm_I g v (by omega))⟩, ri_7 h7 (sm_I g v (by omega))⟩, ?_⟩
  · rw [zI_col g v (by decide : (2 : Nat) ≠ 4)]; exact h3.1
  · rw [zI_col g v (by decide : (3 : Nat) ≠ 4)]; exact h3.2
  · rw [zI_col g v (by decide : (24 : Nat) ≠ 4)]; exact h6.1
  · rw [zI_col g v (by decide : (15 : Nat) ≠ 4)]
    rcases hl with q | ⟨q, l⟩
    · exact Or.inl q
    · exact Or.inr ⟨q, rld_fr l (zI_col g v (by decide : (14 : Nat) ≠ 4)) rfl⟩
theorem p_seed (a : Int32) : PairC (fun g => zev mX11_seed 0 [.ref 3, .int a] g) (fun g => zev mX12_seed 0 [.ref 250, .int a] g) := by
  intro σ g t hw h ht
  refine ⟨.int σ.z, setz σ a, hw, ?_, fun g' r => ?_⟩
  · show COk (zev mX11_seed 0 _ g) _ _ _ _
    rw [uX11_seed_0, h.1.2.2.2.1]
    exact cok_of (ci_z h a) (fr_I g a rfl) (by omega)
  · show ROk (zev mX12_seed 0 _ g') _ _ _
    rw [uX12_seed_0, r.1.2.2.2.1]
    exact rok_of (ri_z hw r a) (fr_I g' a rfl)
theorem p_nets : PairC (fun g => zev mX11_nets 0 [.ref 3] g) (fun g => zev mX12_nets 0 [.ref 250] g) := by
  intro σ g t hw h ht
  obtain ⟨g1, e1, f1, hn⟩ := c_fN hw h ht
  refine ⟨.int (nI (nsL σ.s).length), σ, hw, ?_, fun g' r => ?_⟩
  · show COk (zev mX11_nets 0 _ g) _ _ _ _
    rw [uX11_nets_0, e1, zaV_some, hn.2.1.1]
    exact cok_of (cip_ci hn.1) f1 (by omega)
  · show ROk (zev mX12_nets 0 _ g') _ _ _
    obtain ⟨g2, e2, f2, r2⟩ := r_lN hw r
    rw [uX12_nets_0, e2, zaV_some, r2.2.2.1]
    exact rok_of (rin_ri r2) f2
theorem p_net (a : Int32) : PairC (fun g => zev mX11_net 0 [.ref 3, .int a] g) (fun g => zev mX12_net 0 [.ref 250, .int a] g) := by
  intro σ g t hw h ht
  obtain ⟨g1, e1, f1, hn⟩ := c_isNet hw h ht a
  have l8 := (nsL_ok hw.1).1
  cases q : zin a (nsL σ.s).length with
  | true =>
    obtain ⟨i, hi, e⟩ := zin_of q (by omega)
    subst e
    refine ⟨.long (lN ((nsL σ.s)[i])), σ, hw, ?_, fun g' r => ?_⟩
    · show COk (zev mX11_net 0 _ g) _ _ _ _
      rw [uX11_net_0, e1, zaI_some, q, zin_n (by omega : i < 800) (by omega), nI_clamp (by omega : i < 2 ^ 31), hn.2.1.2 i hi]
      exact cok_of (cip_ci hn.1) f1 (by omega)
    · show ROk (zev mX12_net 0 _ g') _ _ _
      obtain ⟨g2, e2, f2, r2⟩ := r_isNet hw r (nI i)
      rw [uX12_net_0, e2, zaI_some, q, zin_n (by omega : i < 5000) (by omega), nI_clamp (by omega : i < 2 ^ 31), r2.2.2.2 i hi]
      exact rok_of (rin_ri r2) f2
  | false =>
    refine ⟨fL 3, fdn σ 3, wfs_fdn hw 3, ?_, fun g' r => ?_⟩
    · show COk (zev mX11_net 0 _ g) _ _ _ _
      rw [uX11_net_0, e1, zaI_some, q]
      exact cok_le (cok_findL (k := 3) (cip_ci hn.1) f1 (by omega)) (by omega)
    · show ROk (zev mX12_net 0 _ g') _ _ _
      obtain ⟨g2, e2, f2, r2⟩ := r_isNet hw r a
      rw [uX12_net_0, e2, zaI_some, q]
      exact rok_findL (k := 3) (rin_ri r2) hw f2 (by omega)
theorem numL_or {L : List Nat} (hL : LOk L) (b : Int64) : (∃ i, ∃ h : i < L.length, lN L[i] = b ∧ numL L b = nI i) ∨ ((∀ i (h : i < L.length), lN L[i] ≠ b) ∧ numL L b = -1) := by
  by_cases q : ∃ i, ∃ h : i < L.length, lN L[i] = b
  · obtain ⟨i, h, e⟩ := q
    exact Or.inl ⟨i, h, e, numL_t hL.2.1 hL.2.2 h e⟩
  · have n : ∀ i (h : i < L.length), lN L[i] ≠ b := fun i h e => q ⟨i, h, e⟩
    exact Or.inr ⟨n, numL_f n⟩
theorem nI_0le {i : Nat} (h : i < 2 ^ 31) : decide ((0 : Int32) ≤ nI i) = true := decide_eq_true (by
  rw [Int32.le_iff_toInt_le, nI_toInt h]
  show (0 : Int) ≤ i
  omega)
theorem p_rank (b : Int64) : PairC (fun g => zev mX11_rank 0 [.ref 3, .long b] g) (fun g => zev mX12_rank 0 [.ref 250, .long b] g) := by
  intro σ g t hw h ht
  obtain ⟨g1, e1, f1, hn⟩ := c_fN hw h ht
  have lo := nsL_ok hw.1
  have l8 := lo.1
  rcases numL_or lo b with ⟨i, hi, _, e⟩ | ⟨_, e⟩
  · refine ⟨.int (nI i), σ, hw, ?_, fun g' r => ?_⟩
    · show COk (zev mX11_rank 0 _ g) _ _ _ _
      rw [uX11_rank_0, e1, zaV_some, c_find lo hn.2.1, zaI_some, e, nI_0le (by omega : i < 2 ^ 31)]
      exact cok_of (cip_ci hn.1) f1 (by omega)
    · show ROk (zev mX12_rank 0 _ g') _ _ _
      obtain ⟨g2, e2, f2, r2⟩ := r_lN hw r
      rw [uX12_rank_0, e2, zaV_some, r_numberOf lo r2.2.2, zaI_some, e, nI_0le (by omega : i < 2 ^ 31)]
      exact rok_of (rin_ri r2) f2
  · refine ⟨fI 3, fdn σ 3, wfs_fdn hw 3, ?_, fun g' r => ?_⟩
    · show COk (zev mX11_rank 0 _ g) _ _ _ _
      rw [uX11_rank_0, e1, zaV_some, c_find lo hn.2.1, zaI_some, e]
      exact cok_le (cok_find (k := 3) (cip_ci hn.1) f1 (by omega)) (by omega)
    · show ROk (zev mX12_rank 0 _ g') _ _ _
      obtain ⟨g2, e2, f2, r2⟩ := r_lN hw r
      rw [uX12_rank_0, e2, zaV_some, r_numberOf lo r2.2.2, zaI_some, e]
      exact rok_find (k := 3) (rin_ri r2) hw f2 (by omega)
theorem p_with (a b : Int32) : PairC (fun g => zev mX11_with 0 [.ref 3, .int a, .int b] g) (fun g => zev mX12_with 0 [.ref 250, .int a, .int b] g) := by
  intro σ g t hw h ht
  have cb := cb_s h.1.1 hw.1
  have hn := wf_n hw.1
  have lo := nsL_ok hw.1
  cases q1 : (zin a (nS σ.s) && (zin b (nS σ.s) && !decide (a = b))) with
  | false =>
    refine ⟨fI 0, fdn σ 0, wfs_fdn hw 0, ?_, fun g' r => ?_⟩
    · show COk (zev mX11_with 0 _ g) _ _ _ _
      rw [uX11_with_0, c_isPair cb, zaI_some, q1]
      exact cok_le (cok_find (k := 0) h (fr_refl _ g) (by omega)) (by omega)
    · show ROk (zev mX12_with 0 _ g') _ _ _
      rw [uX12_with_0, r_areTwo (rb_s r.1.1 hw.1), zaI_some, q1]
      exact rok_find (k := 0) r hw (fr_refl _ _) (by omega)
  | true =>
    obtain ⟨i, j, hi, hj, nij, e1, e2⟩ := two_of hn q1
    subst e1 e2
    have e36 := eN_lt (by omega : i < 9) (by omega : j < 9) nij
    obtain ⟨g1, e1, f1, hn⟩ := c_fN hw h ht
    refine ⟨.int (nI (cntE (nsL σ.s) (eN i j))), σ, hw, ?_, fun g' r => ?_⟩
    · show COk (zev mX11_with 0 _ g) _ _ _ _
      rw [uX11_with_0, c_isPair cb, zaI_some, q1, e1, zaV_some, c_edgeOf g1 (by omega : i < 9) (by omega : j < 9) nij, zaI_some, c_holding lo hn.2.1 e36, zaI_some]
      exact cok_of (cip_ci hn.1) f1 (by omega)
    · show ROk (zev mX12_with 0 _ g') _ _ _
      obtain ⟨g2, e2, f2, r2⟩ := r_lN hw r
      rw [uX12_with_0, r_areTwo (rb_s r.1.1 hw.1), zaI_some, q1, e2, zaV_some, r_with24 lo r2.2.2 (by omega : i < 9) (by omega : j < 9) nij]
      exact rok_of (rin_ri r2) f2
/-- what is in all, or in any -/
def foldA (L : List Nat) : Nat → Nat → Nat → Nat := fun k i s => itr (fun j s => s &&& L.getD j 0) k i s
def foldO (L : List Nat) : Nat → Nat → Nat → Nat := fun k i s => itr (fun j s => s ||| L.getD j 0) k i s
theorem m1_and (x : Nat) : (-1 : Int64) &&& lN x = lN x := by
  apply Int64.toBitVec_inj.mp
  rw [Int64.toBitVec_and]
  exact BitVec.allOnes_and
theorem p_always (a : Int32) : PairC (fun g => zev mX11_always 0 [.ref 3, .int a] g) (fun g => zev mX12_always 0 [.ref 250, .int a] g) := by
  intro σ g t hw h ht
  have lo := nsL_ok hw.1
  have l8 := lo.1
  by_cases q2 : 0 ≤ a.toInt ∧ a.toInt ≤ 1
  · obtain ⟨j, hj, e⟩ := i_small (k := 1) q2.1 q2.2 (by omega)
    subst e
    obtain ⟨g1, e1, f1, hn⟩ := c_fN hw h ht
    have c0 : decide (nI j < 0) = false := decide_eq_false (nI_n0 (by omega))
    have c1 : decide (nI j ≤ 1) = true := by
      have : j = 0 ∨ j = 1 := by omega
      rcases this with e | e <;> subst e <;> rfl
    by_cases z : (nsL σ.s).length = 0
    · refine ⟨fL 3, fdn σ 3, wfs_fdn hw 3, ?_, fun g' r => ?_⟩
      · show COk (zev mX11_always 0 _ g) _ _ _ _
        rw [uX11_always_0, c0, c1, e1, zaV_some, hn.2.1.1, z]
        exact cok_le (cok_findL (k := 3) (cip_ci hn.1) f1 (by omega)) (by omega)
      · show ROk (zev mX12_always 0 _ g') _ _ _
        obtain ⟨g2, e2, f2, r2⟩ := r_lN hw r
        rw [uX12_always_0, r_inI g' (nI j) (lo := 0) (l := 0) (hi := 1) (h := 1) rfl rfl, zaI_some, decide_eq_true q2, e2, zaV_some, r2.2.2.1, z]
        exact rok_findL (k := 3) (rin_ri r2) hw f2 (by omega)
    · have z1 : decide (nI (nsL σ.s).length = 0) = false := by
        rw [show (0 : Int32) = nI 0 from rfl, nI_de (by omega) (by omega), decide_eq_false z]
      have stA : zev mX3_inAll 0 [.ref 219] g1 = some (some (.long (lN (foldA (nsL σ.s) ((nsL σ.s).length - 1) 1 ((nsL σ.s).getD 0 0)))), g1) := by
        rw [uX3_inAll_0, uX3_inAll_6, hn.2.1.1, show decide (nI (nsL σ.s).length ≤ 0) = false from decide_eq_false (nI_ge (a := 0) (b := (nsL σ.s).length) (by omega) (by omega)), show zin 0 800 = true from rfl, show (0 : Int32).toNatClampNeg = 0 from rfl, hn.2.1.2 0 (by omega), m1_and, ← getD_at (nsL σ.s) 0 (by omega)]
        exact zit (F := fun k s => zev mX3_inAll 6 [.ref 219, .long (lN s), .int (nI k)] g1) (lo := 1) (n := (nsL σ.s).length) (R := fun s => some (some (.long (lN s)), g1)) (h := fun j s => s &&& (nsL σ.s).getD j 0) (fun k s _ hk => by
          rw [uX3_inAll_6, hn.2.1.1, decide_eq_false (nI_ge hk (by omega)), zin_n (by omega : k < 800) (by omega), nI_clamp (by omega : k < 2 ^ 31), hn.2.1.2 k hk, lN_and, nI_1, getD_at _ k hk]
          rfl) (fun s => by rw [uX3_inAll_6, hn.2.1.1, decide_eq_true (nI_le (Nat.le_refl _) (by omega))]; rfl) ((nsL σ.s).length - 1) 1 _ (Nat.le_refl _) (by omega)
      have stO : zev mX3_inAny 0 [.ref 219] g1 = some (some (.long (lN (foldO (nsL σ.s) ((nsL σ.s).length - 1) 1 ((nsL σ.s).getD 0 0)))), g1) := by
        rw [uX3_inAny_0, uX3_inAny_4, hn.2.1.1, show decide (nI (nsL σ.s).length ≤ 0) = false from decide_eq_false (nI_ge (a := 0) (b := (nsL σ.s).length) (by omega) (by omega)), show zin 0 800 = true from rfl, show (0 : Int32).toNatClampNeg = 0 from rfl, hn.2.1.2 0 (by omega), show (0 : Int64) ||| lN (nsL σ.s)[0] = lN (nsL σ.s)[0] from by show lN 0 ||| _ = _; rw [lN_or]; congr 1; exact Nat.zero_or _, ← getD_at (nsL σ.s) 0 (by omega)]
        exact zit (F := fun k s => zev mX3_inAny 4 [.ref 219, .long (lN s), .int (nI k)] g1) (lo := 1) (n := (nsL σ.s).length) (R := fun s => some (some (.long (lN s)), g1)) (h := fun j s => s ||| (nsL σ.s).getD j 0) (fun k s _ hk => by
          rw [uX3_inAny_4, hn.2.1.1, decide_eq_false (nI_ge hk (by omega)), zin_n (by omega : k < 800) (by omega), nI_clamp (by omega : k < 2 ^ 31), hn.2.1.2 k hk, lN_or, nI_1, getD_at _ k hk]
          rfl) (fun s => by rw [uX3_inAny_4, hn.2.1.1, decide_eq_true (nI_le (Nat.le_refl _) (by omega))]; rfl) ((nsL σ.s).length - 1) 1 _ (Nat.le_refl _) (by omega)
      have cases01 : j = 0 ∨ j = 1 := by omega
      rcases cases01 with e | e
      · subst e
        refine ⟨.long (lN (foldA (nsL σ.s) ((nsL σ.s).length - 1) 1 ((nsL σ.s).getD 0 0))), σ, hw, ?_, fun g' r => ?_⟩
        · show COk (zev mX11_always 0 _ g) _ _ _ _
          rw [uX11_always_0, c0, c1, e1, zaV_some, hn.2.1.1, z1, stA]
          exact cok_of (cip_ci hn.1) f1 (by omega)
        · show ROk (zev mX12_always 0 _ g') _ _ _
          obtain ⟨g2, e2, f2, r2⟩ := r_lN hw r
          rw [uX12_always_0, r_inI g' (nI 0) (lo := 0) (l := 0) (hi := 1) (h := 1) rfl rfl, zaI_some, decide_eq_true q2, e2, zaV_some, r2.2.2.1, z1, show (0 : Int32).toNatClampNeg = 0 from rfl, r2.2.2.2 0 (by omega), ← getD_at (nsL σ.s) 0 (by omega)]
          have := zit (F := fun k s => zev mX12_always 43 [.ref 250, .int (nI 0), .long (lN s), .int (nI k)] g2) (lo := 1) (n := (nsL σ.s).length) (R := fun s => some (some (.long (lN s)), g2)) (h := fun j s => s &&& (nsL σ.s).getD j 0) (fun k s _ hk => by
            rw [uX12_always_43, r2.2.2.1, decide_eq_false (nI_ge hk (by omega)), zin_n (by omega : k < 5000) (by omega), nI_clamp (by omega : k < 2 ^ 31), r2.2.2.2 k hk, lN_and, nI_1, getD_at _ k hk]
            rfl) (fun s => by rw [uX12_always_43, r2.2.2.1, decide_eq_true (nI_le (Nat.le_refl _) (by omega))]; rfl) ((nsL σ.s).length - 1) 1 ((nsL σ.s).getD 0 0) (Nat.le_refl _) (by omega)
          show ROk (zev mX12_always 43 [.ref 250, .int (nI 0), .long (lN ((nsL σ.s).getD 0 0)), .int (nI 1)] g2) g' _ σ
          rw [this]
          exact rok_of (rin_ri r2) f2
      · subst e
        refine ⟨.long (lN (foldO (nsL σ.s) ((nsL σ.s).length - 1) 1 ((nsL σ.s).getD 0 0))), σ, hw, ?_, fun g' r => ?_⟩
        · show COk (zev mX11_always 0 _ g) _ _ _ _
          rw [uX11_always_0, c0, c1, e1, zaV_some, hn.2.1.1, z1, stO]
          exact cok_of (cip_ci hn.1) f1 (by omega)
        · show ROk (zev mX12_always 0 _ g') _ _ _
          obtain ⟨g2, e2, f2, r2⟩ := r_lN hw r
          rw [uX12_always_0, r_inI g' (nI 1) (lo := 0) (l := 0) (hi := 1) (h := 1) rfl rfl, zaI_some, decide_eq_true q2, e2, zaV_some, r2.2.2.1, z1, show (0 : Int32).toNatClampNeg = 0 from rfl, r2.2.2.2 0 (by omega), ← getD_at (nsL σ.s) 0 (by omega)]
          have := zit (F := fun k s => zev mX12_always 43 [.ref 250, .int (nI 1), .long (lN s), .int (nI k)] g2) (lo := 1) (n := (nsL σ.s).length) (R := fun s => some (some (.long (lN s)), g2)) (h := fun j s => s ||| (nsL σ.s).getD j 0) (fun k s _ hk => by
            rw [uX12_always_43, r2.2.2.1, decide_eq_false (nI_ge hk (by omega)), zin_n (by omega : k < 5000) (by omega), nI_clamp (by omega : k < 2 ^ 31), r2.2.2.2 k hk, lN_or, nI_1, getD_at _ k hk]
            rfl) (fun s => by rw [uX12_always_43, r2.2.2.1, decide_eq_true (nI_le (Nat.le_refl _) (by omega))]; rfl) ((nsL σ.s).length - 1) 1 ((nsL σ.s).getD 0 0) (Nat.le_refl _) (by omega)
          show ROk (zev mX12_always 43 [.ref 250, .int (nI 1), .long (lN ((nsL σ.s).getD 0 0)), .int (nI 1)] g2) g' _ σ
          rw [this]
          exact rok_of (rin_ri r2) f2
  · refine ⟨fL 0, fdn σ 0, wfs_fdn hw 0, ?_, fun g' r => ?_⟩
    · show COk (zev mX11_always 0 _ g) _ _ _ _
      have fd := cok_le (cok_findL (k := 0) h (fr_refl _ g) (by omega)) (by omega : t ≤ t + 2)
      rw [uX11_always_0, lt_d, led]
      by_cases q3 : a.toInt < (0 : Int32).toInt
      · rw [decide_eq_true q3]; exact fd
      · have q4 : ¬ a.toInt ≤ (1 : Int32).toInt := fun k => by
          have e0 : (0 : Int32).toInt = 0 := rfl
          have e3 : (1 : Int32).toInt = 1 := rfl
          omega
        rw [decide_eq_false q3, decide_eq_false q4]; exact fd
    · show ROk (zev mX12_always 0 _ g') _ _ _
      rw [uX12_always_0, r_inI g' a (lo := 0) (l := 0) (hi := 1) (h := 1) rfl rfl, zaI_some, decide_eq_false q2]
      exact rok_findL (k := 0) r hw (fr_refl _ _) (by omega)
def drw (z l : Int32) : Int32 := (z.toUInt32 >>> ((8 : Int32).toUInt32 &&& Int32.toUInt32 31)).toInt32 - (z.toUInt32 >>> ((8 : Int32).toUInt32 &&& Int32.toUInt32 31)).toInt32 / l * l
theorem p_draw : PairC (fun g => zev mX11_draw 0 [.ref 3] g) (fun g => zev mX12_draw 0 [.ref 250] g) := by
  intro σ g t hw h ht
  have lo := nsL_ok hw.1
  have l8 := lo.1
  obtain ⟨g1, e1, f1, hn⟩ := c_fN hw h ht
  by_cases z : (nsL σ.s).length = 0
  · refine ⟨fI 3, fdn σ 3, wfs_fdn hw 3, ?_, fun g' r => ?_⟩
    · show COk (zev mX11_draw 0 _ g) _ _ _ _
      rw [uX11_draw_0, e1, zaV_some, hn.2.1.1, z]
      exact cok_le (cok_find (k := 3) (cip_ci hn.1) f1 (by omega)) (by omega)
    · show ROk (zev mX12_draw 0 _ g') _ _ _
      obtain ⟨g2, e2, f2, r2⟩ := r_lN hw r
      rw [uX12_draw_0, e2, zaV_some, r2.2.2.1, z]
      exact rok_find (k := 3) (rin_ri r2) hw f2 (by omega)
  · have z1 : decide (nI (nsL σ.s).length = 0) = false := by
      rw [show (0 : Int32) = nI 0 from rfl, nI_de (by omega) (by omega), decide_eq_false z]
    refine ⟨.int (drw (σ.z * 1103515245 + 12345) (nI (nsL σ.s).length)), setz σ (σ.z * 1103515245 + 12345), wfs_setz hw _, ?_, fun g' r => ?_⟩
    · show COk (zev mX11_draw 0 _ g) _ _ _ _
      rw [uX11_draw_0, e1, zaV_some, hn.2.1.1, z1, zI_same, hn.1.1.2.2.2.1]
      exact cok_of (ci_z (cip_ci hn.1) (σ.z * 1103515245 + 12345)) (fr_tr f1 (fr_I g1 (σ.z * 1103515245 + 12345) rfl)) (by omega)
    · show ROk (zev mX12_draw 0 _ g') _ _ _
      obtain ⟨g2, e2, f2, r2⟩ := r_lN hw r
      rw [uX12_draw_0, e2, zaV_some, r2.2.2.1, z1, uX12_drawn_0, zaI_some, zI_col g2 _ (by decide : (14 : Nat) ≠ 4), r2.2.2.1, z1, zI_same, r2.1.2.2.2.1]
      exact rok_of (ri_z hw (rin_ri r2) (σ.z * 1103515245 + 12345)) (fr_tr f2 (fr_I g2 (σ.z * 1103515245 + 12345) rfl))
theorem r_marked {g : zIJ} {s : Nat → Int32} (h : RBo g 251 s) (v : Int32) : zev mX12_marked 0 [.ref 250, .int v] g = some (some (.int (nI (bcN (mM s v)))), g) := by
  rw [uX12_marked_0]
  have := zit (F := fun k c => zev mX12_marked 4 [.ref 250, .int v, .int (nI c), .int (nI k)] g) (lo := 0) (n := 36) (R := fun c => some (some (.int (nI c)), g)) (h := fun k c => c + cond ((mM s v).testBit k) 1 0) (fun k c _ hk => by
    rw [uX12_marked_4, show decide (36 ≤ nI k) = false from decide_eq_false (nI_ge (a := k) (b := 36) hk (by omega)), add20 hk, zin_n (by omega : 20 + k < 72) (by omega), nI_clamp (by omega : 20 + k < 2 ^ 31), h _ (by omega), mM_at hk]
    simp only [nI_1]
    cases decide (s (20 + k) = v)
    · show zev mX12_marked 4 [.ref 250, .int v, .int (nI c + nI 0), .int (nI (k + 1))] g = _
      rw [nI_add]
      rfl
    · rfl) (fun c => by rw [uX12_marked_4]; rfl) 36 0 0 (Nat.le_refl _) (by omega)
  refine Eq.trans this ?_
  have e2 := itr_sum (fun k => cond ((mM s v).testBit k) 1 0) 36 0
  rw [Nat.zero_add] at e2
  show some (some (Value.int (nI (itr _ 36 0 0))), g) = _
  rw [show itr (fun k c => c + cond ((mM s v).testBit k) 1 0) 36 0 0 = sumR (fun k => cond ((mM s v).testBit k) 1 0) 36 from e2]
  have : bcN (mM s v) = sumR (fun k => cond ((mM s v).testBit k) 1 0) 36 := by
    unfold bcN
    rw [sumR_spl _ 36 4]
    have hz : ∀ i, (mM s v).testBit (36 + i) = false := fun i => Nat.testBit_lt_two_pow (Nat.lt_of_lt_of_le (mM_lt s v) (Nat.pow_le_pow_right (by omega) (by omega)))
    simp only [sumR, hz]
    rfl
  rw [this]
theorem p_count (a : Int32) : PairC (fun g => zev mX11_count 0 [.ref 3, .int a] g) (fun g => zev mX12_count 0 [.ref 250, .int a] g) := by
  intro σ g t hw h ht
  have m36 : ∀ v, mM σ.s v < 2 ^ 40 := fun v => Nat.lt_of_lt_of_le (mM_lt σ.s v) (by decide)
  by_cases q2 : 0 ≤ a.toInt ∧ a.toInt ≤ 6
  · obtain ⟨j, hj, e⟩ := i_small (k := 6) q2.1 q2.2 (by omega)
    subst e
    have cl : COk (zev mX11_count 0 [.ref 3, .int (nI j)] g) g (.int (cond (Nat.beq j 0) (σ.s 0) (cond (Nat.beq j 1) (σ.s 1) (cond (Nat.beq j 2) (nI σ.un) (cond (Nat.beq j 3) σ.z (cond (Nat.beq j 4) (nI σ.rm) (cond (Nat.beq j 5) (nI (bcN (mM σ.s 1))) (nI (bcN (mM σ.s 2)))))))))) σ (t + 2) := by
      rw [uX11_count_0, h.1.1.1, h.1.1.2.1, h.1.2.2.1.2, h.1.2.2.2.1, h.1.2.2.2.2.2.1.1, h.1.1.2.2.2.2.1, h.1.1.2.2.2.2.2, j_bitCount g (m36 1), j_bitCount g (m36 2)]
      have : j = 0 ∨ j = 1 ∨ j = 2 ∨ j = 3 ∨ j = 4 ∨ j = 5 ∨ j = 6 := by omega
      rcases this with e | e | e | e | e | e | e <;> subst e <;> exact cok_of h (fr_refl _ g) (by omega)
    refine ⟨_, σ, hw, cl, fun g' r => ?_⟩
    show ROk (zev mX12_count 0 _ g') _ _ _
    have rb := rb_s r.1.1 hw.1
    rw [uX12_count_0, r_points rb, show (1 : Int32).toNatClampNeg = 1 from rfl, r.1.1 1 (by omega), r.1.2.2.1.2, r.1.2.2.2.1, r.1.2.2.2.2.2.1.1, r_marked r.1.1, ← hw.1.1]
    have : j = 0 ∨ j = 1 ∨ j = 2 ∨ j = 3 ∨ j = 4 ∨ j = 5 ∨ j = 6 := by omega
    rcases this with e | e | e | e | e | e | e <;> subst e <;> exact rok_of r (fr_refl _ g')
  · refine ⟨fI 0, fdn σ 0, wfs_fdn hw 0, ?_, fun g' r => ?_⟩
    · show COk (zev mX11_count 0 _ g) _ _ _ _
      rw [uX11_count_0, decide_eq_false (show ¬ a.toInt = 0 by omega), decide_eq_false (show ¬ a.toInt = 1 by omega), decide_eq_false (show ¬ a.toInt = 2 by omega), decide_eq_false (show ¬ a.toInt = 3 by omega), decide_eq_false (show ¬ a.toInt = 4 by omega), decide_eq_false (show ¬ a.toInt = 5 by omega), decide_eq_false (show ¬ a.toInt = 6 by omega)]
      exact cok_le (cok_find (k := 0) h (fr_refl _ g) (by omega)) (by omega)
    · show ROk (zev mX12_count 0 _ g') _ _ _
      rw [uX12_count_0, decide_eq_false (show ¬ a.toInt = 0 by omega), decide_eq_false (show ¬ a.toInt = 1 by omega), decide_eq_false (show ¬ a.toInt = 2 by omega), decide_eq_false (show ¬ a.toInt = 3 by omega), decide_eq_false (show ¬ a.toInt = 4 by omega), decide_eq_false (show ¬ a.toInt = 5 by omega), decide_eq_false (show ¬ a.toInt = 6 by omega)]
      exact rok_find (k := 0) r hw (fr_refl _ _) (by omega)
