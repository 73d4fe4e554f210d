/-! The law's start: classes, array classes, the two tables of the class. -/
theorem zs_rows : ∀ k, k < 36 → ((Cond.eq (.elem (.static "MarkedSweeps" "LESSER_END" "[I") (.int (Int32.ofNat k))) (.int (zLE k))) ∈ flatC (Jvm.Cond.and given_1 narrow_1)) ∧ ((Cond.eq (.elem (.static "MarkedSweeps" "GREATER_END" "[I") (.int (Int32.ofNat k))) (.int (zGE k))) ∈ flatC (Jvm.Cond.and given_1 narrow_1)) := by decide +kernel
theorem zs_tab {args : Array Value} {s : State} {tm : Term} {N : Nat} {f : Nat → Int32} (hN : N < 2 ^ 31) (harr : (Cond.arrayOf tm .int).before args s = true) (hlen : (Term.length tm).eval args s none [] s = some (.int (Int32.ofNat N))) (hel : ∀ j : Nat, j < N → (Term.elem tm (.int (Int32.ofNat j))).eval args s none [] s = some (.int (f j))) :
    ∃ (t : Nat) (cell : Cell), tm.eval args s none [] s = some (.ref t) ∧ s.heap[t]? = some cell ∧ s.isArrayOf cell .int ∧ cell.vm ≠ .unknown ∧ cell.slots.size = N ∧ ∀ j, j < N → cell.slots[j]? = some (.int (f j)) := by
  obtain ⟨t, cell, ht, hat, hv⟩ := Term.length_spec hlen
  have hsz : cell.slots.size < 2 ^ 31 := by
    simp only [Term.eval, ht, hat, Option.bind_eq_bind, Option.bind_some] at hlen
    by_cases hlt : cell.slots.size < 2147483648
    · exact hlt
    · simp [hlt] at hlen
  obtain ⟨u, ht2, cell2, hcell, hof, hkn, hle, h32, hval, -⟩ := va_Tof (A := fun _ => False) (f := fun j => .int (f j)) hN harr hlen hel (fun _ _ => id)
  cases ht.symm.trans ht2
  obtain ⟨hcell1, -, -, -⟩ := State.arrayAt?_spec hat
  cases hcell.symm.trans hcell1
  refine ⟨t, _, ht, hcell, hof, hkn, ?_, hval⟩
  have h1 : (Int32.ofNat cell.slots.size).toNatClampNeg = (Int32.ofNat N).toNatClampNeg := by
    rw [show Int32.ofNat cell.slots.size = Int32.ofNat N from h32]
  rwa [Int32.toNatClampNeg_ofNat_of_lt hsz, Int32.toNatClampNeg_ofNat_of_lt hN] at h1
theorem zs_cls {args : Array Value} {s : State} (hts : ∀ w ∈ lw_tbl, w.before args s = true) : ∃ D : va_G, ∀ (k : Nat) (q : vw_C), vwCl[k]? = some q → u_Kn s q.1 q.2.1 q.2.2 (D.1 k) (D.2 k) := by
  have hone : ∀ k : Nat, ∃ (cC : ClassId) (iS : Nat → Nat), ∀ q : vw_C, vwCl[k]? = some q → u_Kn s q.1 q.2.1 q.2.2 cC iS := by
    intro k
    cases hq : vwCl[k]? with
    | none => exact ⟨0, fun _ => 0, fun q h => by cases h⟩
    | some q =>
      obtain ⟨C, T, N⟩ := q
      have hk : k < 13 := (List.getElem?_eq_some_iff.mp hq).1
      have hin := (zcls_all k hk C T N hq).1
      have hw : ∀ k, k < 13 → (match vwCl[k]? with | some q => decide (Cond.instantiable q.1 q.2.2 ∈ lw_tbl) | none => true) = true := by decide +kernel
      have hw := hw k hk
      rw [hq] at hw
      obtain ⟨c0, i0, h0⟩ := u_known (C := C) (T := T) (N := N) (n := N) hts (fun w hw => zTG_sub (hin w hw)) (hts _ (of_decide_eq_true hw))
      exact ⟨c0, i0, fun q h => by cases h; exact h0⟩
  refine ⟨(fun k => Classical.choose (hone k), fun k => Classical.choose (Classical.choose_spec (hone k))), fun k q hq => ?_⟩
  exact Classical.choose_spec (Classical.choose_spec (hone k)) q hq
theorem zs_words : Cond.arrayClass .int ∈ lw_tbl ∧ Cond.arrayClass .long ∈ lw_tbl ∧ Cond.arrayOver (.object RX0) ∈ lw_tbl ∧ Cond.arrayOver (.object RX8) ∈ lw_tbl ∧ Cond.arrayOver (.array .int) ∈ lw_tbl ∧ Cond.arrayOver (.array .long) ∈ lw_tbl ∧ Cond.laysStatic "MarkedSweeps" "LESSER_END" "[I" ∈ lw_tbl ∧ Cond.laysStatic "MarkedSweeps" "GREATER_END" "[I" ∈ lw_tbl ∧ Cond.initialized "MarkedSweeps" ∈ lw_tbl := by decide +kernel
theorem zs_wordsN : Cond.arrayOf (.static "MarkedSweeps" "LESSER_END" "[I") .int ∈ flatC (Jvm.Cond.and given_1 narrow_1) ∧ Cond.arrayOf (.static "MarkedSweeps" "GREATER_END" "[I") .int ∈ flatC (Jvm.Cond.and given_1 narrow_1) ∧ Cond.eq (.length (.static "MarkedSweeps" "LESSER_END" "[I")) (.int 36) ∈ flatC (Jvm.Cond.and given_1 narrow_1) ∧ Cond.eq (.length (.static "MarkedSweeps" "GREATER_END" "[I")) (.int 36) ∈ flatC (Jvm.Cond.and given_1 narrow_1) := by decide +kernel
theorem zs_c : zC 0 = (110, (zC 0).2) ∧ zC 1 = (111, 36) ∧ zC 2 = (112, 36) := by decide +kernel
/-- all that the abstract machine takes from the law's start -/
theorem zs_start {p : Program} {s : State} {m : MethodId} {meth : Method} {c : Code} {b L : Nat} {xs : Nat → Int32} (hL : L ≤ 3072) (C0 : lw_At p s m meth c b L xs) :
    ∃ E : zE, E.1.1 = b ∧ E.2.2.2 = s.heap ∧ yF E s ∧ yR E s (fun j => cond (Nat.beq j 5000) (Int32.ofNat L) (xs j)) (3, [], []) s.heap := by
  obtain ⟨hx, hb, hr, hml, hown, hts, hX, hbl, hlocks, hgv⟩ := C0
  have hnw := flat_of_before _ hgv
  obtain ⟨w1, w2, w3, w4, w5, w6, w7, w8, w9⟩ := zs_words
  obtain ⟨v1, v2, v3, v4⟩ := zs_wordsN
  obtain ⟨D, hD⟩ := zs_cls hts
  obtain ⟨c0, k0, m0, f0, g0, e0⟩ := Cond.arrayClass_spec (hts _ w1)
  obtain ⟨c1, k1, m1, f1, g1, e1⟩ := Cond.arrayClass_spec (hts _ w2)
  obtain ⟨m2, c2, k2, n2, -, g2, e2, f2⟩ := Cond.arrayOver_spec (hts _ w3)
  obtain ⟨m3, c3, k3, n3, -, g3, e3, f3⟩ := Cond.arrayOver_spec (hts _ w4)
  obtain ⟨m4, c4, k4, n4, -, g4, e4, f4⟩ := arrayOverA_spec (hts _ w5)
  obtain ⟨m5, c5, k5, n5, -, g5, e5, f5⟩ := arrayOverA_spec (hts _ w6)
  have q4 : m4 = c0 := by
    have : some m4 = some c0 := n4.symm.trans f0
    exact Option.some.inj this
  have q5 : m5 = c1 := by
    have : some m5 = some c1 := n5.symm.trans f1
    exact Option.some.inj this
  subst q4
  subst q5
  obtain ⟨t1, l1, a1, b1, d1, h1, z1, r1⟩ := zs_tab (N := 36) (f := zLE) (by decide) (hnw _ v1) (va_eqt (hnw _ v3)) (fun j hj => va_eqt (hnw _ (zs_rows j hj).1))
  obtain ⟨t2, l2, a2, b2, d2, h2, z2, r2⟩ := zs_tab (N := 36) (f := zGE) (by decide) (hnw _ v2) (va_eqt (hnw _ v4)) (fun j hj => va_eqt (hnw _ (zs_rows j hj).2))
  have hA : ∀ a : Nat, a < s.heap.size → ¬ (fun q => s.heap.size ≤ q) a := fun a h => Nat.not_le.mpr h
  have s1 := va_Zref (A := fun q => s.heap.size ≤ q) (hts _ w7) (hts _ w9) a1 hA
  have s2 := va_Zref (A := fun q => s.heap.size ≤ q) (hts _ w8) (hts _ w9) a2 hA
  have i1 : t1 < s.heap.size := (Array.getElem?_eq_some_iff.mp b1).1
  have i2 : t2 < s.heap.size := (Array.getElem?_eq_some_iff.mp b2).1
  have hK : va_K D vwCl [(m4, .int), (m5, .long), (c2, .object RX0), (c3, .object RX8), (c4, .array .int), (c5, .array .long)] s := by
    refine ⟨hD, fun k q hk => ?_⟩
    match k, hk with
    | 0, hk => cases hk; exact ⟨fun N z => ⟨(fun k h => by cases h), k0, g0, m0, e0⟩, f0⟩
    | 1, hk => cases hk; exact ⟨fun N z => ⟨(fun k h => by cases h), k1, g1, m1, e1⟩, f1⟩
    | 2, hk => cases hk; exact ⟨fun N z => ⟨(fun k h => by cases h), k2, g2, m2, e2⟩, k2, m2, g2, e2, n2, f2⟩
    | 3, hk => cases hk; exact ⟨fun N z => ⟨(fun k h => by cases h), k3, g3, m3, e3⟩, k3, m3, g3, e3, n3, f3⟩
    | 4, hk => cases hk; exact ⟨fun N z => ⟨(fun k h => by cases h), k4, g4, m4, e4⟩, f4⟩
    | 5, hk => cases hk; exact ⟨fun N z => ⟨(fun k h => by cases h), k5, g5, m5, e5⟩, f5⟩
    | k + 6, hk => simp at hk
  refine ⟨((b, t1, t2), D, (fun k => match k with | 0 => m4 | 1 => m5 | 2 => c2 | 3 => c3 | 4 => c4 | _ => c5), s.heap), rfl, rfl, ⟨⟨hK, fun w hw => ?_, s1, s2⟩, ⟨va_AO.of (hts _ w3), va_AO.of (hts _ w4)⟩, ⟨k4, g4, e4⟩, ⟨k5, g5, e5⟩⟩, ⟨⟨rfl, Nat.le_refl 3⟩, ⟨hbl, i1, i2⟩, fun q _ => rfl, fun k hk => ?_, (fun q hq => nomatch hq), (fun q hq => nomatch hq)⟩⟩
  · have hn := (List.mem_filter.mp hw).2
    have h9 := hts w (List.mem_filter.mp hw).1
    refine va_Nw.of ?_ h9
    cases w <;> first | rfl | (exact absurd hn (by simp [zNw]))
  · obtain ⟨y0, y1, y2⟩ := zs_c
    have hk3 : k < 3 := hk
    rcases (show k = 0 ∨ k = 1 ∨ k = 2 by omega) with rfl | rfl | rfl
    · rw [y0]
      obtain ⟨scr, x1, x2, x3, x4, x5⟩ := hX
      have e5000 : (Int32.ofNat L).toNatClampNeg = L := Int32.toNatClampNeg_ofNat_of_lt (by omega)
      refine ⟨scr, x1, x2, x3, ?_, fun j hj => ?_⟩
      · show scr.slots.size = (Int32.ofNat L).toNatClampNeg
        rw [e5000, x4]
      · have hj : j < (Int32.ofNat L).toNatClampNeg := hj
        rw [e5000] at hj
        rw [x5 j hj]
        show _ = some (Value.int (cond (Nat.beq j 5000) (Int32.ofNat L) (xs j)))
        rw [zbeqf (show j ≠ 5000 by omega)]
        rfl
    · rw [y1]
      exact ⟨l1, b1, d1, h1, z1, r1⟩
    · rw [y2]
      exact ⟨l2, b2, d2, h2, z2, r2⟩
