/-! Copies, switches, calls. -/
section ZS4
variable {p : Program} {l : Launch} {e : Env} {R : Room} {s : State} {m : MethodId} {args : Array Value} {below : List Frame} {meth : Method} {c : Code} {Q : State → Prop} {E : zE} {n : Nat} {cc : ByteArray} {own : String} {rt : Option FieldType} {kc ks : Nat}
theorem zcat_sum (S : List Value) : ((S.map (zv E)).map fun v => v.category).sum = zcat S := by
  induction S with
  | nil => rfl
  | cons v r ih =>
    rw [List.map_cons, List.map_cons, List.sum_cons, ih, zv_cat]
    rfl
theorem zcopyI {i : Nat} {pc : Nat} {L : zLs} {r : List Value} {h : zIJ} {a d : Nat} {sp dp q : Int32} (X : zX p R kc ks s m args meth c cc n own rt E) (hd : decode cc pc = .ok (.invokestatic i, 3)) (hw : Cond.methodLink own i arraycopyName ∈ zTG ∧ Cond.native arraycopyName ∈ zTG ∧ Cond.static arraycopyName ∈ zTG ∧ Cond.initialized "java/lang/System" ∈ zTG)
    (hka : (zC a).1 = 100) (hkd : (zC d).1 = 100) (hg : zcpG (zC a).2 (zC d).2 sp dp q = true) (hcat : zcat r ≤ 8)
    (k : zN p l e R s m args below meth c Q E kc ks n (pc + 3) L r (zcpI h a sp.toNatClampNeg d dp.toNatClampNeg q.toNatClampNeg)) {H : Heap} {locs : List Loc} {ls : Array Slot} (hR : zR E s h H) (hf : ∀ q ∈ locs, E.2.2.2.size ≤ q.base) (hl : lv_has ls n (zl E L)) :
    W p l e R s m args below meth c H locs kc ks Q (F0 m pc ls (.int q :: .int dp :: .ref (zad E d) :: .int sp :: .ref (zad E a) :: r.map (zv E))) := by
  obtain ⟨hx, hcc, hml, hown, hts, hF, -, -, hfr, hlo, hkc, hks⟩ := X
  have hg := of_decide_eq_true hg
  obtain ⟨g1, g2, g3, g4, g5⟩ := hg
  obtain ⟨ha3, hca⟩ := zc_ints hR hka
  obtain ⟨hd3, hcd⟩ := zc_ints hR hkd
  have ng : ∀ z : Int32, 0 ≤ z.toInt → ¬ z < 0 := fun z hz q => by
    have := Int32.lt_iff_toInt_lt.mp q
    rw [Int32.toInt_zero] at this
    omega
  have nn : ∀ z : Int32, 0 ≤ z.toInt → z.toInt = (z.toNatClampNeg : Int) := fun z hz => by
    show z.toInt = ((z.toInt.toNat : Nat) : Int)
    omega
  have hA := (hF.1.2 0 (E.2.2.1 0, .int) rfl).1
  obtain ⟨-, k0, hk0, cm0, hkk0⟩ := hA (zC a).2 (fun j => .int (h.1 a j))
  obtain ⟨-, k1, hk1, cm1, hkk1⟩ := hA (zC d).2 (fun j => .int (h.1 d j))
  have h4 : sp.toNatClampNeg + q.toNatClampNeg ≤ (zC a).2 := by have := nn sp g1; have := nn q g3; omega
  intro T hT X
  obtain ⟨vm', X', step⟩ := X.arraycopy hx hown (hts _ hw.1) (hts _ hw.2.1) (hts _ hw.2.2.1) (hts _ hw.2.2.2) (src := zad E a) (dst := zad E d) (srcPos := sp) (destPos := dp) (n := q) (by rw [hT]; exact hca) (by rw [hT]; exact hcd)
    (fun _ h => by cases h) (fun _ h => by cases h) (fun h => by cases h) (fun h => by cases h) hk0 hk1 hkk0 hkk1 (by rfl) (ng _ g1) (ng _ g2) (ng _ g3)
    (by rw [arrV_size]; omega)
    (by rw [arrV_size]; omega)
    (fun vm₁ _ i hi => by
      have e : (arrV (E.2.2.1 0) (zC a).2 (fun j => .int (h.1 a j))).slots.getD (sp.toNatClampNeg + i) .null = .int (h.1 a (sp.toNatClampNeg + i)) := by
        rw [Array.getD_eq_getD_getElem?, arrV_read _ _ (by omega)]
        rfl
      refine ⟨?_, ?_⟩
      · rw [e]
        rfl
      · rw [e]
        exact trivial)
    (g := F0 m pc ls (.int q :: .int dp :: .ref (zad E d) :: .int sp :: .ref (zad E a) :: r.map (zv E))) rfl (by rw [hml]; exact hl.1) (rest := r.map (zv E)) rfl (by rw [hcc]; exact hd) hfr (by
      have e := zcat_sum (E := E) r
      rw [show nativeFrameWords "java/lang/System" "arraycopy" 5 = 7 from by decide +kernel]
      show 2 * 0 + _ + _ ≤ _
      omega)
  have e1 : copied (arrV (E.2.2.1 0) (zC a).2 (fun j => .int (h.1 a j))) (arrV (E.2.2.1 0) (zC d).2 (fun j => .int (h.1 d j))) sp dp q = arrV (E.2.2.1 0) (zC d).2 (fun j => .int (va_cpy (h.1 a) (h.1 d) sp.toNatClampNeg dp.toNatClampNeg q.toNatClampNeg j)) := va_copied (fun z => .int z) (E.2.2.1 0) (E.2.2.1 0) (h.1 a) (h.1 d) h4
  rw [e1] at X' step
  have hl2 : zad E d < H.size := (Array.getElem?_eq_some_iff.mp hcd).1
  obtain ⟨t, a1, b1⟩ := k _ _ ls (zR_set (H' := H.setIfInBounds (zad E d) (arrV (E.2.2.1 0) (zC d).2 (fun j => .int (va_cpy (h.1 a) (h.1 d) sp.toNatClampNeg dp.toNatClampNeg q.toNatClampNeg j)))) hR hd3 (fun k hk => zrow_other hk) (fun k _ => rfl) (by simp) (fun q hq => by simp [Array.getElem?_setIfInBounds, Ne.symm hq]) (fun _ => by
      unfold zcell
      rw [hkd]
      show (H.setIfInBounds (zad E d) _)[zad E d]? = some _
      rw [Array.getElem?_setIfInBounds, if_pos rfl, if_pos hl2]
      congr 2
      funext j
      show _ = Value.int (zrow h.1 d _ d j)
      rw [zrow_self])) (fun z hz => by
      rcases List.mem_append.mp hz with h | h
      · exact hf z h
      · obtain ⟨y, -, hy⟩ := List.mem_map.mp h
        rw [← hy]
        show E.2.2.2.size ≤ zad E d
        rw [zad_hi hd3]
        omega) hl _ (by rw [← hT]; rfl) X'
  exact ⟨t, step t a1, b1⟩
theorem zcopyL {i : Nat} {pc : Nat} {L : zLs} {r : List Value} {h : zIJ} {a d : Nat} {sp dp q : Int32} (X : zX p R kc ks s m args meth c cc n own rt E) (hd : decode cc pc = .ok (.invokestatic i, 3)) (hw : Cond.methodLink own i arraycopyName ∈ zTG ∧ Cond.native arraycopyName ∈ zTG ∧ Cond.static arraycopyName ∈ zTG ∧ Cond.initialized "java/lang/System" ∈ zTG)
    (hka : (zC a).1 = 101) (hkd : (zC d).1 = 101) (hg : zcpG (zC a).2 (zC d).2 sp dp q = true) (hcat : zcat r ≤ 8)
    (k : zN p l e R s m args below meth c Q E kc ks n (pc + 3) L r (zcpL h a sp.toNatClampNeg d dp.toNatClampNeg q.toNatClampNeg)) {H : Heap} {locs : List Loc} {ls : Array Slot} (hR : zR E s h H) (hf : ∀ q ∈ locs, E.2.2.2.size ≤ q.base) (hl : lv_has ls n (zl E L)) :
    W p l e R s m args below meth c H locs kc ks Q (F0 m pc ls (.int q :: .int dp :: .ref (zad E d) :: .int sp :: .ref (zad E a) :: r.map (zv E))) := by
  obtain ⟨hx, hcc, hml, hown, hts, hF, -, -, hfr, hlo, hkc, hks⟩ := X
  have hg := of_decide_eq_true hg
  obtain ⟨g1, g2, g3, g4, g5⟩ := hg
  obtain ⟨ha3, hca⟩ := zc_longs hR hka
  obtain ⟨hd3, hcd⟩ := zc_longs hR hkd
  have ng : ∀ z : Int32, 0 ≤ z.toInt → ¬ z < 0 := fun z hz q => by
    have := Int32.lt_iff_toInt_lt.mp q
    rw [Int32.toInt_zero] at this
    omega
  have nn : ∀ z : Int32, 0 ≤ z.toInt → z.toInt = (z.toNatClampNeg : Int) := fun z hz => by
    show z.toInt = ((z.toInt.toNat : Nat) : Int)
    omega
  have hA := (hF.1.2 1 (E.2.2.1 1, .long) rfl).1
  obtain ⟨-, k0, hk0, cm0, hkk0⟩ := hA (zC a).2 (fun j => .long (h.2 a j))
  obtain ⟨-, k1, hk1, cm1, hkk1⟩ := hA (zC d).2 (fun j => .long (h.2 d j))
  have h4 : sp.toNatClampNeg + q.toNatClampNeg ≤ (zC a).2 := by have := nn sp g1; have := nn q g3; omega
  intro T hT X
  obtain ⟨vm', X', step⟩ := X.arraycopy hx hown (hts _ hw.1) (hts _ hw.2.1) (hts _ hw.2.2.1) (hts _ hw.2.2.2) (src := zad E a) (dst := zad E d) (srcPos := sp) (destPos := dp) (n := q) (by rw [hT]; exact hca) (by rw [hT]; exact hcd)
    (fun _ h => by cases h) (fun _ h => by cases h) (fun h => by cases h) (fun h => by cases h) hk0 hk1 hkk0 hkk1 (by rfl) (ng _ g1) (ng _ g2) (ng _ g3)
    (by rw [arrV_size]; omega)
    (by rw [arrV_size]; omega)
    (fun vm₁ _ i hi => by
      have e : (arrV (E.2.2.1 1) (zC a).2 (fun j => .long (h.2 a j))).slots.getD (sp.toNatClampNeg + i) .null = .long (h.2 a (sp.toNatClampNeg + i)) := by
        rw [Array.getD_eq_getD_getElem?, arrV_read _ _ (by omega)]
        rfl
      refine ⟨?_, ?_⟩
      · rw [e]
        rfl
      · rw [e]
        exact trivial)
    (g := F0 m pc ls (.int q :: .int dp :: .ref (zad E d) :: .int sp :: .ref (zad E a) :: r.map (zv E))) rfl (by rw [hml]; exact hl.1) (rest := r.map (zv E)) rfl (by rw [hcc]; exact hd) hfr (by
      have e := zcat_sum (E := E) r
      rw [show nativeFrameWords "java/lang/System" "arraycopy" 5 = 7 from by decide +kernel]
      show 2 * 0 + _ + _ ≤ _
      omega)
  have e1 : copied (arrV (E.2.2.1 1) (zC a).2 (fun j => .long (h.2 a j))) (arrV (E.2.2.1 1) (zC d).2 (fun j => .long (h.2 d j))) sp dp q = arrV (E.2.2.1 1) (zC d).2 (fun j => .long (va_cpy (h.2 a) (h.2 d) sp.toNatClampNeg dp.toNatClampNeg q.toNatClampNeg j)) := va_copied (fun z => .long z) (E.2.2.1 1) (E.2.2.1 1) (h.2 a) (h.2 d) h4
  rw [e1] at X' step
  have hl2 : zad E d < H.size := (Array.getElem?_eq_some_iff.mp hcd).1
  obtain ⟨t, a1, b1⟩ := k _ _ ls (zR_set (H' := H.setIfInBounds (zad E d) (arrV (E.2.2.1 1) (zC d).2 (fun j => .long (va_cpy (h.2 a) (h.2 d) sp.toNatClampNeg dp.toNatClampNeg q.toNatClampNeg j)))) hR hd3 (fun k _ => rfl) (fun k hk => zrow_other hk) (by simp) (fun q hq => by simp [Array.getElem?_setIfInBounds, Ne.symm hq]) (fun _ => by
      unfold zcell
      rw [hkd]
      show (H.setIfInBounds (zad E d) _)[zad E d]? = some _
      rw [Array.getElem?_setIfInBounds, if_pos rfl, if_pos hl2]
      congr 2
      funext j
      show _ = Value.long (zrow h.2 d _ d j)
      rw [zrow_self])) (fun z hz => by
      rcases List.mem_append.mp hz with h | h
      · exact hf z h
      · obtain ⟨y, -, hy⟩ := List.mem_map.mp h
        rw [← hy]
        show E.2.2.2.size ≤ zad E d
        rw [zad_hi hd3]
        omega) hl _ (by rw [← hT]; rfl) X'
  exact ⟨t, step t a1, b1⟩
theorem zs_copy {i : Nat} {pc nx : Nat} {k0 : Nat} {hs : List Nat} {v : Value} {L : zLs} {S : List Value} {h : zIJ} {o : zO} (X : zX p R kc ks s m args meth c cc n own rt E) (hd : decode cc pc = .ok (.invokestatic i, 3)) (hx : nx = pc + 3) (hw : Cond.methodLink own i arraycopyName ∈ zTG ∧ Cond.native arraycopyName ∈ zTG ∧ Cond.static arraycopyName ∈ zTG ∧ Cond.initialized "java/lang/System" ∈ zTG) (hz : zex n rt (pc, .invokestatic i, nx, 999 :: k0 :: hs, v) L S h = some o) : zOn p l e R s m args below meth c Q E kc ks n pc nx L S h o := by
  subst hx
  have hz2 : zcp (999 :: k0 :: hs) L S h = some o := hz
  clear hz
  match S, hz2 with
  | .int q :: .int dp :: .ref d :: .int sp :: .ref a :: r, hz2 =>
    obtain ⟨hcat, hz2⟩ := zcond (show cond (Nat.ble (zcat r) 8) _ none = some o from hz2)
    have hcat := Nat.le_of_ble_eq_true hcat
    cases hk0 : Nat.beq k0 100 with
    | true =>
      rw [hk0] at hz2
      cases hz2
      intro hb k H locs ls hR hf hl
      rw [Bool.and_eq_true, Bool.and_eq_true] at hb
      exact zcopyI X hd hw (Nat.eq_of_beq_eq_true hb.1.1) (Nat.eq_of_beq_eq_true hb.1.2) hb.2 hcat k hR hf hl
    | false =>
      rw [hk0] at hz2
      cases hz2
      intro hb k H locs ls hR hf hl
      rw [Bool.and_eq_true, Bool.and_eq_true] at hb
      exact zcopyL X hd hw (Nat.eq_of_beq_eq_true hb.1.1) (Nat.eq_of_beq_eq_true hb.1.2) hb.2 hcat k hR hf hl
/-- a switch -/
theorem zsw_spec {x : Int32} {k : Nat → Option zRes} {d : Nat} {r : zRes} : ∀ (ts : List Nat) (lo : Int), zsw x k d lo ts = some r → (∃ j : Nat, ∃ t, ts[j]? = some t ∧ x.toInt = lo + j ∧ k t = some r) ∨ ((x.toInt < lo ∨ lo + ts.length ≤ x.toInt) ∧ k d = some r)
  | [], lo, h => Or.inr ⟨by simp only [List.length_nil]; omega, h⟩
  | t :: ts, lo, h => by
    unfold zsw at h
    cases hd : decide (x.toInt = lo) with
    | true =>
      rw [hd] at h
      exact Or.inl ⟨0, t, rfl, by have := of_decide_eq_true hd; omega, h⟩
    | false =>
      rw [hd] at h
      have hne := of_decide_eq_false hd
      rcases zsw_spec ts (lo + 1) h with ⟨j, t2, h1, h2, h3⟩ | ⟨h1, h2⟩
      · exact Or.inl ⟨j + 1, t2, by rw [List.getElem?_cons_succ]; exact h1, by omega, h3⟩
      · exact Or.inr ⟨by rw [List.length_cons]; omega, h2⟩
theorem zs_switch {dflt lo hi : Int} {offs : Array Int} {pc len : Nat} {d : Nat} {ts : List Nat} {L : zLs} {r : List Value} {h : zIJ} {x : Int32} (X : zX p R kc ks s m args meth c cc n own rt E) (hd : decode cc pc = .ok (.tableswitch dflt lo hi offs, len)) (hdf : (pc : Int) + dflt = d) (hlen : hi = lo + ts.length - 1) (hts : ts.map (fun t : Nat => ((t : Int) - (pc : Int))) = offs.toList)
    (k1 : ∀ (j t : Nat), ts[j]? = some t → x.toInt = lo + (j : Int) → zN p l e R s m args below meth c Q E kc ks n t L r h) (k2 : (x.toInt < lo ∨ lo + ts.length ≤ x.toInt) → zN p l e R s m args below meth c Q E kc ks n d L r h) : zN p l e R s m args below meth c Q E kc ks n pc L (.int x :: r) h := by
  intro H locs ls hR hf hl
  by_cases ho : x.toInt < lo ∨ lo + ts.length ≤ x.toInt
  · exact lv_tableOut X.1 X.2.1 hd (by omega) hdf (k2 ho H locs ls hR hf hl)
  · have hj : (x.toInt - lo).toNat < ts.length := by omega
    have hg : ts[(x.toInt - lo).toNat]? = some ts[(x.toInt - lo).toNat] := List.getElem?_eq_getElem hj
    have ho2 : offs[(x.toInt - lo).toNat]? = some ((ts[(x.toInt - lo).toNat] : Int) - pc) := by
      rw [← Array.getElem?_toList, ← hts, List.getElem?_map, hg]
      rfl
    exact lv_tableIn (tgt := ts[(x.toInt - lo).toNat]) X.1 X.2.1 hd (by omega) (by omega) ho2 (by omega) (k1 _ _ hg (by omega) H locs ls hR hf hl)
/-- behind a call -/
theorem z_call {H : Heap} {locs : List Loc} {ls : Array Slot} {pc : Nat} {st0 rest : List Value} {as : Array Value} {r : Option Value} {h' : zIJ} (hr : va_Run p l e R s m args below meth c H locs kc ks 0 0 (F0 m pc ls st0) rest (zQ E r h' as) (zFree E)) (hf : ∀ q ∈ locs, E.2.2.2.size ≤ q.base)
    (kk : ∀ (H1 : Heap) (locs1 : List Loc), zR E s h' H1 → (∀ q ∈ locs1, E.2.2.2.size ≤ q.base) → W p l e R s m args below meth c H1 locs1 kc ks Q (F0 m (pc + 3) ls ((r.map (zv E)).toList ++ rest))) : W p l e R s m args below meth c H locs kc ks Q (F0 m pc ls st0) := by
  intro T hT X
  obtain ⟨v, st₀, t, T', L, h0, X', hL, e1, e2, ⟨hv, hR, hF⟩, st⟩ := hr T hT X
  cases hv
  have hal : t.vm.Alike s.vm := by rw [← e2]; exact X'.warmed.alike.symm
  obtain ⟨t2, a1, b1⟩ := kk T'.heap (locs ++ L) (by rw [e1]; exact zR_s hal hR) (fun q hq => by
    rcases List.mem_append.mp hq with h | h
    · exact hf q h
    · exact hL q h) T' rfl X'
  exact ⟨t2, st t2 a1, b1⟩
def zRoom (k : Nat) : Room := { frames := k + 1, cells := 0, slots := 0, locals := 64 * (k + 1) }
def zPc (E : zE) (as : List Value) (h : zIJ) : Array Value → State → Prop := va_Pc (as.map (zv E)) (fun U => zR E U h U.heap ∧ zF E U)
theorem zPc_blind {as : List Value} {h : zIJ} : FrameBlind (zPc E as h) := fun a U g mk q => ⟨q.1, zR_s (s := U) (U := U.calling g mk a) (Vm.Alike.refl U.vm) q.2.1, zF_v (s := U) (U := U.calling g mk a) rfl q.2.2⟩
/-- a method's contract at arguments and a heap: it answers r and leaves h' -/
def zMet (l : Launch) (E : zE) (y : MethodName) (bytes : ByteArray) (maxL : Nat) (ret : Option FieldType) (lev : Nat) (as : List Value) (h : zIJ) (r : Option Value) (h' : zIJ) : Prop :=
  Met l y (.code y bytes maxL ret :: zTG) (zRoom lev) (zPc E as h) (zQ E r h') 0 0 (zFree E)
end ZS4
