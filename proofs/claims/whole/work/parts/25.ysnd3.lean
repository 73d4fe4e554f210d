/-! Arrays, fields and stores in the machine of making. -/
section YS2
variable {p : Program} {l : Launch} {e : Env} {R : Room} {s : State} {m : MethodId} {args : Array Value} {below : List Frame} {meth : Method} {c : Code} {Q : State → Prop} {E : zE} {n : Nat} {cc : ByteArray} {own : String} {x0 : Nat → Int32} {N0 : Nat}
theorem arrV_cg {cI : ClassId} {N : Nat} {f g : Nat → Value} (h : ∀ j, j < N → f j = g j) : arrV cI N f = arrV cI N g := by
  unfold arrV
  congr 1
  apply Array.ext
  · simp
  · intro j h1 h2
    simp only [Array.getElem_ofFn]
    exact h j (by simpa using h1)
theorem ys_newI {pc : Nat} {L : zLs} {r : List Value} {st : yS} {len : Int32} (X : yX p R s m args meth c cc n own E) (hd : decode cc pc = .ok (.newarray .int, 2)) (hw : Cond.arrayClass .int ∈ zTG) (hlen : 0 ≤ len.toInt) (hz : zC st.1 = (100, len.toNatClampNeg)) (hb : len.toNatClampNeg ≤ 10000) (h0 : N0 ≤ st.1) (hrc : st.1 + 1 - N0 ≤ R.cells) (hrs : zcum (st.1 + 1) - zcum N0 ≤ R.slots)
    (k : yN p l e R s m args below meth c Q E x0 N0 n (pc + 2) L (.ref st.1 :: r) (st.1 + 1, st.2)) : yN p l e R s m args below meth c Q E x0 N0 n pc L (.int len :: r) st := by
  intro H locs ls hR hf hl
  obtain ⟨hx, hcc, hml, hown, hts, hF, -⟩ := X
  have hcum : zcum (st.1 + 1) = zcum st.1 + len.toNatClampNeg := by show zcum st.1 + (zC st.1).2 = _; rw [hz]
  have hle := zcum_le h0
  have hlen' : ¬ len < 0 := fun q => by
    have := Int32.lt_iff_toInt_lt.mp q
    rw [Int32.toInt_zero] at this
    omega
  refine W.newa (atype := .int) hx hcc (hts _ hw) rfl hd rfl hlen' (by show _ * 4 ≤ _; omega) (by omega) (by omega) fun cA kA comp h1 h2 h3 => ?_
  have hcA : cA = E.2.2.1 0 := by
    have := (hF.1.1.2 0 (E.2.2.1 0, .int) rfl).2
    exact Option.some.inj (h1.symm.trans this)
  subst hcA
  have hsz := yR_sz hR
  have hgo := k (H.push { cls := E.2.2.1 0, slots := Array.replicate len.toNatClampNeg (.int 0), vm := .none }) locs ls (yR_new (d := 1) hR rfl rfl (fun _ _ _ => rfl) (by rw [Array.size_push]) (fun q hq => by rw [Array.getElem?_push, if_neg (Nat.ne_of_lt hq)]) (fun k h5 h6 => by
      have : k = st.1 := by omega
      subst this
      unfold ycell zcell
      rw [hz]
      dsimp only
      rw [if_neg (by decide), if_neg (by decide), if_neg (by decide), if_pos rfl]
      rw [← hsz, Array.getElem?_push_size, arrV_new]
      congr 2
      funext j
      show Value.int 0 = .int ((yg x0 st.2.2).1 st.1 j)
      have hv : (yg x0 st.2.2).1 st.1 j = 0 := by
        show cond (Nat.beq st.1 0) (x0 j) (yI st.2.2 st.1 j) = 0
        rw [zbeqf (by have := hR.1.2; omega)]
        exact yI_none hR.2.2.2.2.2 j
      rw [hv]) (fun q hq => by have := hR.2.2.2.2.1 q hq; omega)) hf hl
  rw [hsz]
  have e1 : st.1 - N0 + 1 = st.1 + 1 - N0 := by omega
  have e2 : zcum st.1 - zcum N0 + len.toNatClampNeg = zcum (st.1 + 1) - zcum N0 := by omega
  rw [e1, e2]
  exact hgo
theorem ys_newL {pc : Nat} {L : zLs} {r : List Value} {st : yS} {len : Int32} (X : yX p R s m args meth c cc n own E) (hd : decode cc pc = .ok (.newarray .long, 2)) (hw : Cond.arrayClass .long ∈ zTG) (hlen : 0 ≤ len.toInt) (hz : zC st.1 = (101, len.toNatClampNeg)) (hb : len.toNatClampNeg ≤ 10000) (h0 : N0 ≤ st.1) (hrc : st.1 + 1 - N0 ≤ R.cells) (hrs : zcum (st.1 + 1) - zcum N0 ≤ R.slots)
    (k : yN p l e R s m args below meth c Q E x0 N0 n (pc + 2) L (.ref st.1 :: r) (st.1 + 1, st.2)) : yN p l e R s m args below meth c Q E x0 N0 n pc L (.int len :: r) st := by
  intro H locs ls hR hf hl
  obtain ⟨hx, hcc, hml, hown, hts, hF, -⟩ := X
  have hcum : zcum (st.1 + 1) = zcum st.1 + len.toNatClampNeg := by show zcum st.1 + (zC st.1).2 = _; rw [hz]
  have hle := zcum_le h0
  have hlen' : ¬ len < 0 := fun q => by
    have := Int32.lt_iff_toInt_lt.mp q
    rw [Int32.toInt_zero] at this
    omega
  refine W.newa (atype := .long) hx hcc (hts _ hw) rfl hd rfl hlen' (by show _ * 8 ≤ _; omega) (by omega) (by omega) fun cA kA comp h1 h2 h3 => ?_
  have hcA : cA = E.2.2.1 1 := by
    have := (hF.1.1.2 1 (E.2.2.1 1, .long) rfl).2
    exact Option.some.inj (h1.symm.trans this)
  subst hcA
  have hsz := yR_sz hR
  have hgo := k (H.push { cls := E.2.2.1 1, slots := Array.replicate len.toNatClampNeg (.long 0), vm := .none }) locs ls (yR_new (d := 1) hR rfl rfl (fun _ _ _ => rfl) (by rw [Array.size_push]) (fun q hq => by rw [Array.getElem?_push, if_neg (Nat.ne_of_lt hq)]) (fun k h5 h6 => by
      have : k = st.1 := by omega
      subst this
      unfold ycell zcell
      rw [hz]
      dsimp only
      rw [if_neg (by decide), if_neg (by decide), if_neg (by decide), if_neg (by decide), if_pos rfl]
      rw [← hsz, Array.getElem?_push_size, arrV_new]
      rfl) (fun q hq => by have := hR.2.2.2.2.1 q hq; omega)) hf hl
  rw [hsz]
  have e1 : st.1 - N0 + 1 = st.1 + 1 - N0 := by omega
  have e2 : zcum st.1 - zcum N0 + len.toNatClampNeg = zcum (st.1 + 1) - zcum N0 := by omega
  rw [e1, e2]
  exact hgo
theorem ys_anew {i pc t : Nat} {L : zLs} {r : List Value} {st : yS} {len : Int32} {C : String} (X : yX p R s m args meth c cc n own E) (hd : decode cc pc = .ok (.anewarray i, 3)) (hw : Cond.classLink own i C ∈ zTG) (ht : (t = 102 ∧ C = RX0) ∨ (t = 103 ∧ C = RX8)) (hlen : 0 ≤ len.toInt) (hz : zC st.1 = (t, len.toNatClampNeg)) (hb : len.toNatClampNeg ≤ 10000) (h0 : N0 ≤ st.1) (hrc : st.1 + 1 - N0 ≤ R.cells) (hrs : zcum (st.1 + 1) - zcum N0 ≤ R.slots)
    (k : yN p l e R s m args below meth c Q E x0 N0 n (pc + 3) L (.ref st.1 :: r) (st.1 + 1, st.2)) : yN p l e R s m args below meth c Q E x0 N0 n pc L (.int len :: r) st := by
  intro H locs ls hR hf hl
  obtain ⟨hx, hcc, hml, hown, hts, hF, -⟩ := X
  have hcum : zcum (st.1 + 1) = zcum st.1 + len.toNatClampNeg := by show zcum st.1 + (zC st.1).2 = _; rw [hz]
  have hle := zcum_le h0
  have hlen' : ¬ len < 0 := fun q => by
    have := Int32.lt_iff_toInt_lt.mp q
    rw [Int32.toInt_zero] at this
    omega
  have hao : va_AO C s := by
    rcases ht with ⟨-, rfl⟩ | ⟨-, rfl⟩
    · exact hF.2.1.1
    · exact hF.2.1.2
  have htt : 102 ≤ t ∧ t < 106 := by omega
  refine W.anew hx hcc hown (hts _ hw) (va_AO.use hao) rfl hd rfl hlen' (by omega) (by omega) (by omega) fun cA kA comp h1 h2 h3 h4 => ?_
  have hcA : cA = E.2.2.1 (t - 100) := by
    rcases ht with ⟨rfl, rfl⟩ | ⟨rfl, rfl⟩
    · obtain ⟨-, -, -, -, -, h9⟩ := (hF.1.1.2 2 (E.2.2.1 2, .object RX0) rfl).2
      exact Option.some.inj (h1.symm.trans h9)
    · obtain ⟨-, -, -, -, -, h9⟩ := (hF.1.1.2 3 (E.2.2.1 3, .object RX8) rfl).2
      exact Option.some.inj (h1.symm.trans h9)
  subst hcA
  have hsz := yR_sz hR
  have hgo := k (H.push { cls := E.2.2.1 (t - 100), slots := Array.replicate len.toNatClampNeg .null, vm := .none }) locs ls (yR_new (d := 1) hR rfl rfl (fun _ _ _ => rfl) (by rw [Array.size_push]) (fun q hq => by rw [Array.getElem?_push, if_neg (Nat.ne_of_lt hq)]) (fun k h5 h6 => by
      have : k = st.1 := by omega
      subst this
      unfold ycell
      rw [hz, if_neg (show ¬ t < 100 by omega), if_pos htt, ← hsz, Array.getElem?_push_size, arrV_new]
      congr 2
      funext j
      unfold yrv
      rw [yA_none hR.2.2.2.2.1 j]
      rfl) (fun q hq => by have := hR.2.2.2.2.1 q hq; omega)) hf hl
  rw [hsz]
  have e1 : st.1 - N0 + 1 = st.1 + 1 - N0 := by omega
  have e2 : zcum st.1 - zcum N0 + len.toNatClampNeg = zcum (st.1 + 1) - zcum N0 := by omega
  rw [e1, e2]
  exact hgo
theorem yall_spec {N kd k : Nat} : ∀ {i : Nat}, yall N kd k i = true → ∀ j, j < i → zC (N + 1 + j) = (kd, k) ∧ zRf N j = N + 1 + j
  | 0, _, j, hj => absurd hj (Nat.not_lt_zero _)
  | i + 1, h, j, hj => by
    unfold yall at h
    simp only [Bool.and_eq_true] at h
    by_cases e : j = i
    · subst e
      exact ⟨of_decide_eq_true h.1, Nat.eq_of_beq_eq_true h.2.1⟩
    · exact yall_spec h.2.2 j (by omega)
theorem zcum_all {N kd k : Nat} : ∀ {i : Nat}, yall N kd k i = true → zcum (N + 1 + i) = zcum (N + 1) + i * k
  | 0, _ => by simp
  | i + 1, h => by
    have h1 := (yall_spec h i (by omega)).1
    unfold yall at h
    simp only [Bool.and_eq_true] at h
    have ih := zcum_all h.2.2
    show zcum (N + 1 + i) + (zC (N + 1 + i)).2 = _
    rw [ih, h1, Nat.succ_mul]
    omega
theorem yA_range {N k j : Nat} {A : List (Nat × Nat)} : ∀ (d : List Nat), yA (d.map (fun i => (N, i)) ++ A) k j = (decide (k = N ∧ j ∈ d) || yA A k j)
  | [] => by simp
  | i :: d => by
    show cond (Nat.beq N k && Nat.beq i j) true (yA (d.map (fun i => (N, i)) ++ A) k j) = _
    rw [yA_range d]
    by_cases h1 : N = k
    · subst h1
      by_cases h2 : i = j
      · subst h2; simp [zbeqt]
      · rw [zbeqf h2]
        have : ¬ j = i := fun q => h2 q.symm
        simp [this]
    · rw [zbeqf h1]
      have : ¬ k = N := fun q => h1 q.symm
      simp [this]
theorem ys_multiI {i pc : Nat} {L : zLs} {r : List Value} {st : yS} {a b : Int32} (X : yX p R s m args meth c cc n own E) (hd : decode cc pc = .ok (.multianewarray i 2, 4)) (hw : Cond.classLink own i "[[I" ∈ zTG) (ha : 0 < a.toInt) (hb : 0 ≤ b.toInt) (hz : zC st.1 = (104, a.toNatClampNeg)) (hall : yall st.1 100 b.toNatClampNeg a.toNatClampNeg = true) (hab : a.toNatClampNeg ≤ 10000 ∧ b.toNatClampNeg ≤ 10000) (h0 : N0 ≤ st.1) (hrc : st.1 + (1 + a.toNatClampNeg) - N0 ≤ R.cells) (hrs : zcum (st.1 + (1 + a.toNatClampNeg)) - zcum N0 ≤ R.slots)
    (k : yN p l e R s m args below meth c Q E x0 N0 n (pc + 4) L (.ref st.1 :: r) (st.1 + (1 + a.toNatClampNeg), (List.range a.toNatClampNeg).map (fun i => (st.1, i)) ++ st.2.1, st.2.2)) : yN p l e R s m args below meth c Q E x0 N0 n pc L (.int b :: .int a :: r) st := by
  intro H locs ls hR hf hl
  obtain ⟨hx, hcc, hml, hown, hts, hF, -⟩ := X
  have hcum : zcum (st.1 + (1 + a.toNatClampNeg)) = zcum st.1 + (a.toNatClampNeg + a.toNatClampNeg * b.toNatClampNeg) := by
    rw [← Nat.add_assoc, zcum_all hall]
    show zcum st.1 + (zC st.1).2 + _ = _
    rw [hz]
    omega
  have hle := zcum_le h0
  have ng : ∀ z : Int32, 0 ≤ z.toInt → ¬ z < 0 := fun z hz q => by
    have := Int32.lt_iff_toInt_lt.mp q
    rw [Int32.toInt_zero] at this
    omega
  have hfc : s.vm.findClass "[[I" = some (E.2.2.1 4) := (hF.1.1.2 4 (E.2.2.1 4, .array .int) rfl).2
  obtain ⟨kO, hkO, hkindO⟩ := hF.2.2.1
  obtain ⟨-, kI, hkI, compI, hkindI⟩ := (hF.1.1.2 0 (E.2.2.1 0, .int) rfl).1 0 (fun _ => .null)
  have hsz := yR_sz hR
  have hs3 := hR.1.2
  refine W_mnew (C := "[[I") hx hcc hown (hts _ hw) hfc hkO hkindO hkI hkindI (by simp) rfl rfl (ng _ (by omega)) (ng _ hb) (fun q => by rw [q] at ha; exact absurd ha (by decide)) hab.1 hab.2 (by omega) (by omega) hd fun H' L' z1 z2 z3 z4 z5 => ?_
  have hgo := k H' (locs ++ L') ls (yR_new (d := 1 + a.toNatClampNeg) hR rfl rfl (fun k j hk => by
      dsimp only
      rw [yA_range]
      have : ¬ k = st.1 := by omega
      simp [this]) (by omega) z3 (fun k h5 h6 => by
      by_cases ek : k = st.1
      · subst ek
        unfold ycell
        rw [hz]
        dsimp only
        rw [if_neg (by decide), if_pos (by decide), ← hsz, z2]
        congr 1
        refine arrV_cg (fun j hj => ?_)
        unfold yrv
        rw [yA_range]
        have hm : decide (st.1 = st.1 ∧ j ∈ List.range a.toNatClampNeg) = true := decide_eq_true ⟨rfl, List.mem_range.mpr hj⟩
        rw [hm, (yall_spec hall j hj).2]
        show Value.ref (H.size + 1 + j) = Value.ref (zad E (st.1 + 1 + j))
        have e9 : H.size + 1 + j = zad E (st.1 + 1 + j) := by
          rw [zad_hi (show 3 ≤ st.1 + 1 + j by omega)]
          have h7 := hR.1.1
          omega
        rw [e9]
      · have hj : k = st.1 + 1 + (k - st.1 - 1) := by omega
        have hk9 := (yall_spec hall (k - st.1 - 1) (by omega)).1
        rw [← hj] at hk9
        unfold ycell zcell
        rw [hk9]
        dsimp only
        rw [if_neg (by decide), if_neg (by decide), if_neg (by decide), if_pos rfl]
        have hzk : zad E k = H.size + 1 + (k - st.1 - 1) := by
          rw [hsz, zad_hi (by omega), zad_hi hs3]
          omega
        rw [hzk, z4 _ (by omega)]
        congr 2
        funext j
        show Value.int 0 = .int ((yg x0 st.2.2).1 k j)
        have hv : (yg x0 st.2.2).1 k j = 0 := by
          show cond (Nat.beq k 0) (x0 j) (yI st.2.2 k j) = 0
          rw [zbeqf (by omega)]
          exact yI_none (fun q hq => by have := hR.2.2.2.2.2 q hq; omega) j
        rw [hv]) (fun q hq => by
      rcases List.mem_append.mp hq with h | h
      · obtain ⟨y, -, rfl⟩ := List.mem_map.mp h
        dsimp only
        omega
      · have := hR.2.2.2.2.1 q h
        omega)) (fun q hq => by
      rcases List.mem_append.mp hq with h | h
      · exact hf q h
      · rw [z5 q h, hsz, zad_hi hs3]
        omega) hl
  rw [hsz]
  have e1 : st.1 - N0 + (1 + a.toNatClampNeg) = st.1 + (1 + a.toNatClampNeg) - N0 := by omega
  have e2 : zcum st.1 - zcum N0 + (a.toNatClampNeg + a.toNatClampNeg * b.toNatClampNeg) = zcum (st.1 + (1 + a.toNatClampNeg)) - zcum N0 := by omega
  rw [e1, e2]
  exact hgo
theorem ys_multiL {i pc : Nat} {L : zLs} {r : List Value} {st : yS} {a b : Int32} (X : yX p R s m args meth c cc n own E) (hd : decode cc pc = .ok (.multianewarray i 2, 4)) (hw : Cond.classLink own i "[[J" ∈ zTG) (ha : 0 < a.toInt) (hb : 0 ≤ b.toInt) (hz : zC st.1 = (105, a.toNatClampNeg)) (hall : yall st.1 101 b.toNatClampNeg a.toNatClampNeg = true) (hab : a.toNatClampNeg ≤ 10000 ∧ b.toNatClampNeg ≤ 10000) (h0 : N0 ≤ st.1) (hrc : st.1 + (1 + a.toNatClampNeg) - N0 ≤ R.cells) (hrs : zcum (st.1 + (1 + a.toNatClampNeg)) - zcum N0 ≤ R.slots)
    (k : yN p l e R s m args below meth c Q E x0 N0 n (pc + 4) L (.ref st.1 :: r) (st.1 + (1 + a.toNatClampNeg), (List.range a.toNatClampNeg).map (fun i => (st.1, i)) ++ st.2.1, st.2.2)) : yN p l e R s m args below meth c Q E x0 N0 n pc L (.int b :: .int a :: r) st := by
  intro H locs ls hR hf hl
  obtain ⟨hx, hcc, hml, hown, hts, hF, -⟩ := X
  have hcum : zcum (st.1 + (1 + a.toNatClampNeg)) = zcum st.1 + (a.toNatClampNeg + a.toNatClampNeg * b.toNatClampNeg) := by
    rw [← Nat.add_assoc, zcum_all hall]
    show zcum st.1 + (zC st.1).2 + _ = _
    rw [hz]
    omega
  have hle := zcum_le h0
  have ng : ∀ z : Int32, 0 ≤ z.toInt → ¬ z < 0 := fun z hz q => by
    have := Int32.lt_iff_toInt_lt.mp q
    rw [Int32.toInt_zero] at this
    omega
  have hfc : s.vm.findClass "[[J" = some (E.2.2.1 5) := (hF.1.1.2 5 (E.2.2.1 5, .array .long) rfl).2
  obtain ⟨kO, hkO, hkindO⟩ := hF.2.2.2
  obtain ⟨-, kI, hkI, compI, hkindI⟩ := (hF.1.1.2 1 (E.2.2.1 1, .long) rfl).1 0 (fun _ => .null)
  have hsz := yR_sz hR
  have hs3 := hR.1.2
  refine W_mnew (C := "[[J") hx hcc hown (hts _ hw) hfc hkO hkindO hkI hkindI (by simp) rfl rfl (ng _ (by omega)) (ng _ hb) (fun q => by rw [q] at ha; exact absurd ha (by decide)) hab.1 hab.2 (by omega) (by omega) hd fun H' L' z1 z2 z3 z4 z5 => ?_
  have hgo := k H' (locs ++ L') ls (yR_new (d := 1 + a.toNatClampNeg) hR rfl rfl (fun k j hk => by
      dsimp only
      rw [yA_range]
      have : ¬ k = st.1 := by omega
      simp [this]) (by omega) z3 (fun k h5 h6 => by
      by_cases ek : k = st.1
      · subst ek
        unfold ycell
        rw [hz]
        dsimp only
        rw [if_neg (by decide), if_pos (by decide), ← hsz, z2]
        congr 1
        refine arrV_cg (fun j hj => ?_)
        unfold yrv
        rw [yA_range]
        have hm : decide (st.1 = st.1 ∧ j ∈ List.range a.toNatClampNeg) = true := decide_eq_true ⟨rfl, List.mem_range.mpr hj⟩
        rw [hm, (yall_spec hall j hj).2]
        show Value.ref (H.size + 1 + j) = Value.ref (zad E (st.1 + 1 + j))
        have e9 : H.size + 1 + j = zad E (st.1 + 1 + j) := by
          rw [zad_hi (show 3 ≤ st.1 + 1 + j by omega)]
          have h7 := hR.1.1
          omega
        rw [e9]
      · have hj : k = st.1 + 1 + (k - st.1 - 1) := by omega
        have hk9 := (yall_spec hall (k - st.1 - 1) (by omega)).1
        rw [← hj] at hk9
        unfold ycell zcell
        rw [hk9]
        dsimp only
        rw [if_neg (by decide), if_neg (by decide), if_neg (by decide), if_neg (by decide), if_pos rfl]
        have hzk : zad E k = H.size + 1 + (k - st.1 - 1) := by
          rw [hsz, zad_hi (by omega), zad_hi hs3]
          omega
        rw [hzk, z4 _ (by omega)]
        rfl) (fun q hq => by
      rcases List.mem_append.mp hq with h | h
      · obtain ⟨y, -, rfl⟩ := List.mem_map.mp h
        dsimp only
        omega
      · have := hR.2.2.2.2.1 q h
        omega)) (fun q hq => by
      rcases List.mem_append.mp hq with h | h
      · exact hf q h
      · rw [z5 q h, hsz, zad_hi hs3]
        omega) hl
  rw [hsz]
  have e1 : st.1 - N0 + (1 + a.toNatClampNeg) = st.1 + (1 + a.toNatClampNeg) - N0 := by omega
  have e2 : zcum st.1 - zcum N0 + (a.toNatClampNeg + a.toNatClampNeg * b.toNatClampNeg) = zcum (st.1 + (1 + a.toNatClampNeg)) - zcum N0 := by omega
  rw [e1, e2]
  exact hgo
end YS2
