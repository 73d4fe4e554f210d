/-! Fields and stores in the machine of making. -/
section YS3
variable {p : Program} {l : Launch} {e : Env} {R : Room} {s : State} {m : MethodId} {args : Array Value} {below : List Frame} {meth : Method} {c : Code} {Q : State → Prop} {E : zE} {n : Nat} {cc : ByteArray} {own : String} {x0 : Nat → Int32} {N0 : Nat}
theorem yc_obj {st : yS} {H : Heap} (hR : yR E s x0 st H) {a ci : Nat} (hk : (zC a).1 = ci) (hci : ci < 100) (ha : a < st.1) : 3 ≤ a ∧ ∃ r : vw_C, vwCl[ci]? = some r ∧ r.2.2 = (zC a).2 ∧ t_OB (zad E a) (E.2.1.1 ci) (zC a).2 (E.2.1.2 ci) H (fun j => zv E (yfv (yg x0 st.2.2) st.2.1 a j (zty ci j))) := by
  have hc := hR.2.2.2.1 a ha
  unfold ycell at hc
  rw [hk, if_pos hci] at hc
  exact ⟨zC_3 hk (by omega), hc⟩
theorem yputW {i : Nat} {pc : Nat} {ci j : Nat} {L : zLs} {r : List Value} {st st' : yS} {C : String} {T : u_T} {N a : Nat} {w : Value} (X : yX p R s m args meth c cc n own E) (hin9 : meth.name = "<init>") (hd : decode cc pc = .ok (.putfield i, 3)) (hc : vwCl[ci]? = some (C, T, N)) (hj : j < N) (hTC : (T j).1 = C) (hCo : C = own) (hw : Cond.fieldLink own i C (T j).2.1 (T j).2.2.1 ∈ zTG)
    (hk : (zC a).1 = ci) (ha : a < st.1) (hn : narrow (zty ci j) w = w) (hfit : fits (zty ci j) w = true) (hN' : st'.1 = st.1) (hI : ∀ k, k ≠ a → (yg x0 st'.2.2).1 k = (yg x0 st.2.2).1 k) (hA : ∀ k j, k ≠ a → yA st'.2.1 k j = yA st.2.1 k j) (hv : ∀ b, zv E (yfv (yg x0 st'.2.2) st'.2.1 a b (zty ci b)) = if b = j then w else zv E (yfv (yg x0 st.2.2) st.2.1 a b (zty ci b))) (hA2 : ∀ q ∈ st'.2.1, q.1 < st.1 ∨ q ∈ st.2.1) (hV2 : ∀ q ∈ st'.2.2, q.1 < st.1 ∨ q ∈ st.2.2)
    (k : yN p l e R s m args below meth c Q E x0 N0 n (pc + 3) L r st') {H : Heap} {locs : List Loc} {ls : Array Slot} (hR : yR E s x0 st H) (hf : ∀ q ∈ locs, E.2.2.2.size ≤ q.base) (hl : lv_has ls n (zl E L)) : W p l e R s m args below meth c H locs (st.1 - N0) (zcum st.1 - zcum N0) Q (F0 m pc ls (w :: .ref (zad E a) :: r.map (zv E))) := by
  obtain ⟨hx, hcc, hml, hown, hts, hF, -⟩ := X
  have hci := vwCl_lt hc
  obtain ⟨hin, hty, hnm⟩ := zcls_all ci hci C T N hc
  obtain ⟨h3, r', r1, r2, cell, q1, q2, q3, q4⟩ := yc_obj hR hk (by omega) ha
  cases hc.symm.trans r1
  have r2 : N = (zC a).2 := r2
  have hap := va_apart (own := own) hts hin (zty ci) hty hnm hF.1.1 hc
  obtain ⟨hS, hfc, kC, hkC, hkind⟩ := hF.1.1.1 ci _ hc
  obtain ⟨cf, kf, fi, f, hi, hsl⟩ := hS j hj
  have hlays := u_lays hts hin hj
  have hst := (u_facts hfc hkC hlays hi).1
  have h6 := u_fits hfc hkC hkind hlays hi (hty j hj) hn hfit
  have hfin : hasFlag f.accessFlags Acc.final = false ∨ (m.cls = cf ∧ meth.name = "<init>") := by
    have hlay := hts _ (hin _ (u_in_lay hj))
    unfold u_lay at hlay
    cases hb : (T j).2.2.2 with
    | false =>
      rw [if_neg (by rw [hb]; decide)] at hlay
      exact Or.inl (u_store hfc hkC hkind hlay hi (hty j hj) hn hfit).1
    | true =>
      rw [if_pos hb] at hlay
      right
      obtain ⟨_, _, c', _, _, _, -, -, hf', -, -, -, hown2, -⟩ := Cond.laysFinal_spec hlay
      have e1 : c' = cf := by have := hi.symm.trans hf'; simp at this; exact this.1.symm
      rw [hTC, hCo] at hown2
      exact ⟨by rw [← e1]; exact Option.some.inj (hown.symm.trans hown2), hin9⟩
  have hi' := hi
  dsimp only at hi'
  rw [hTC] at hi'
  have hlt : zad E a < H.size := (Array.getElem?_eq_some_iff.mp q1).1
  rw [← r2] at q4
  refine W.putf hx hcc hown (hts _ hw) hi' hst hfin q1 (by rw [q3]; exact fun h => by cases h) (by rw [hsl]; exact k2_hasslot (q4 j hj)) h6.1 (by rw [q2, q3]; exact h6.2) rfl rfl hd ?_
  have hgo := k (H.setIfInBounds (zad E a) (cell.setSlot f.slot w)) (locs ++ [⟨zad E a, f.slot⟩]) ls (yR_set hR h3 hN' hI hA (by simp) (fun q hq => by simp [Array.getElem?_setIfInBounds, Ne.symm hq]) (by
      unfold ycell
      rw [hk, if_pos (show ci < 100 by omega), ← r2]
      rw [hsl]
      exact ⟨_, hc, rfl, t_OB.to (V := updV (fun j => zv E (yfv (yg x0 st.2.2) st.2.1 a j (zty ci j))) j w) ⟨cell.setSlot (E.2.1.2 ci j) w, by simp [Array.getElem?_setIfInBounds, hlt], q2, q3, t_set q4 hap hj w⟩ (fun b _ => by rw [hv b]; rfl)⟩) (fun q hq => by
      rcases hA2 q hq with h | h
      · exact h
      · exact hR.2.2.2.2.1 q h) (fun q hq => by
      rcases hV2 q hq with h | h
      · exact h
      · exact hR.2.2.2.2.2 q h)) (fun q hq => by
      rcases List.mem_append.mp hq with q1 | q1
      · exact hf q q1
      · rw [List.mem_singleton.mp q1]
        show E.2.2.2.size ≤ zad E a
        rw [zad_hi h3]
        omega) hl
  rw [hN'] at hgo
  exact hgo
theorem yg_other {V : List (Nat × Nat × Int32)} {a j : Nat} {x : Int32} (k : Nat) (h : k ≠ a) : (yg x0 ((a, j, x) :: V)).1 k = (yg x0 V).1 k := by
  funext b
  show cond (Nat.beq k 0) (x0 b) (yI ((a, j, x) :: V) k b) = cond (Nat.beq k 0) (x0 b) (yI V k b)
  rw [yI_other h]
theorem yg_self {V : List (Nat × Nat × Int32)} {a j : Nat} {x : Int32} (ha : 3 ≤ a) (b : Nat) : (yg x0 ((a, j, x) :: V)).1 a b = if b = j then x else (yg x0 V).1 a b := by
  show cond (Nat.beq a 0) (x0 b) (yI ((a, j, x) :: V) a b) = if b = j then x else cond (Nat.beq a 0) (x0 b) (yI V a b)
  rw [zbeqf (show a ≠ 0 by omega), yI_self]
  rfl
theorem ys_putfield {i : Nat} {pc nx : Nat} {ci j a : Nat} {L : zLs} {v : Value} {r : List Value} {st : yS} {C : String} {T : u_T} {N : Nat} {o : yO} (X : yX p R s m args meth c cc n own E) (hin9 : meth.name = "<init>") (hd : decode cc pc = .ok (.putfield i, 3)) (hx : nx = pc + 3) (hc : vwCl[ci]? = some (C, T, N)) (hj : j < N) (hTC : (T j).1 = C) (hCo : C = own) (hw : Cond.fieldLink own i C (T j).2.1 (T j).2.2.1 ∈ zTG)
    (hk : (zC a).1 = ci) (ha : a < st.1) (hz : yput ci j a v nx L r st = some o) (k : yN p l e R s m args below meth c Q E x0 N0 n o.1 o.2.1 o.2.2.1 o.2.2.2) : yN p l e R s m args below meth c Q E x0 N0 n pc L (v :: .ref a :: r) st := by
  have hci := vwCl_lt hc
  have ha3 : 3 ≤ a := zC_3 hk (by omega)
  intro H locs ls hR hf hl
  subst hx
  unfold yput at hz
  split at hz
  · rename_i x
    obtain ⟨hb, hz⟩ := zcond hz
    cases hz
    rw [Bool.or_eq_true, Bool.and_eq_true] at hb
    have hty : (zty ci j = .int ∨ zty ci j = .boolean) ∧ (zty ci j = .boolean → x = 0 ∨ x = 1) := by
      rcases hb with hb | hb
      · have := of_decide_eq_true hb
        exact ⟨Or.inl this, fun h => by rw [this] at h; cases h⟩
      · refine ⟨Or.inr (of_decide_eq_true hb.1), fun _ => ?_⟩
        have h2 := hb.2
        unfold zbit at h2
        simpa using h2
    refine yputW (st := st) (st' := (st.1, st.2.1, (a, j, x) :: st.2.2)) (w := .int x) X hin9 hd hc hj hTC hCo hw hk ha ?_ ?_ rfl (fun k hk => yg_other k hk) (fun _ _ _ => rfl) (fun b => ?_) (fun q hq => Or.inr hq) (fun q hq => ?_) k hR hf hl
    · rcases hty.1 with h | h
      · rw [h]; rfl
      · rw [h]; rcases hty.2 h with rfl | rfl <;> rfl
    · rcases hty.1 with h | h
      · rw [h]; rfl
      · rw [h]; rcases hty.2 h with rfl | rfl <;> rfl
    · by_cases hbj : b = j
      · subst hbj
        rw [if_pos rfl]
        rcases hty.1 with h | h <;> rw [h] <;> (show Value.int ((yg x0 ((a, b, x) :: st.2.2)).1 a b) = _; rw [yg_self ha3, if_pos rfl])
      · rw [if_neg hbj]
        unfold yfv
        dsimp only
        rw [yg_self ha3, if_neg hbj]
        rfl
    · rcases List.mem_cons.mp hq with rfl | h
      · exact Or.inl ha
      · exact Or.inr h
  · rename_i x
    obtain ⟨hb, hz⟩ := zcond hz
    cases hz
    rw [Bool.and_eq_true] at hb
    have hty := of_decide_eq_true hb.1
    have hx0 := of_decide_eq_true hb.2
    subst hx0
    refine yputW (st := st) (st' := st) (w := .long 0) X hin9 hd hc hj hTC hCo hw hk ha (by rw [hty]; rfl) (by rw [hty]; rfl) rfl (fun _ _ => rfl) (fun _ _ _ => rfl) (fun b => ?_) (fun q hq => Or.inr hq) (fun q hq => Or.inr hq) k hR hf hl
    by_cases hbj : b = j
    · subst hbj
      rw [if_pos rfl, hty]
      rfl
    · rw [if_neg hbj]
  · rename_i b0
    obtain ⟨hb, hz⟩ := zcond hz
    cases hz
    rw [Bool.and_eq_true] at hb
    have hrf : zRf a j = b0 := Nat.eq_of_beq_eq_true hb.2
    have hyr : ∀ ty : FieldType, yref ty = true → (∃ d, parseFieldDescriptor d = some ty) → (narrow ty (.ref (zad E b0)) = .ref (zad E b0) ∧ fits ty (.ref (zad E b0)) = true ∧ ∀ g A, yfv g A a j ty = yrv A a j) ∨ ty = .byte ∨ ty = .char ∨ ty = .short ∨ ty = .float ∨ ty = .double := by
      intro ty hy _
      cases ty
      case object => left; exact ⟨rfl, rfl, fun _ _ => rfl⟩
      case array => left; exact ⟨rfl, rfl, fun _ _ => rfl⟩
      case int => cases hy
      case boolean => cases hy
      case long => cases hy
      all_goals simp
    have hno : ∀ c, c < 13 → ∀ j, j < (((vwCl[c]?).map (fun r => r.2.2)).getD 0) → ¬ (zty c j = .byte ∨ zty c j = .char ∨ zty c j = .short ∨ zty c j = .float ∨ zty c j = .double) := by decide +kernel
    obtain ⟨-, hty, -⟩ := zcls_all ci hci C T N hc
    rcases hyr (zty ci j) hb.1 ⟨_, hty j hj⟩ with ⟨g1, g2, g3⟩ | h
    · refine yputW (st := st) (st' := (st.1, (a, j) :: st.2.1, st.2.2)) (w := .ref (zad E b0)) X hin9 hd hc hj hTC hCo hw hk ha g1 g2 rfl (fun _ _ => rfl) (fun k b hk => yA_other hk b) (fun b => ?_) (fun q hq => ?_) (fun q hq => Or.inr hq) k hR hf hl
      · by_cases hbj : b = j
        · subst hbj
          rw [if_pos rfl, g3]
          unfold yrv
          dsimp only
          rw [yA_self, if_pos rfl, hrf]
          rfl
        · rw [if_neg hbj]
          unfold yfv yrv
          dsimp only
          rw [yA_self, if_neg hbj]
      · rcases List.mem_cons.mp hq with rfl | h
        · exact Or.inl ha
        · exact Or.inr h
    · exact absurd h (hno ci hci j (by rw [hc]; exact hj))
  · cases hz
theorem ys_getfield {i : Nat} {pc : Nat} {ci j a : Nat} {L : zLs} {r : List Value} {st : yS} {C : String} {T : u_T} {N : Nat} (X : yX p R s m args meth c cc n own E) (hd : decode cc pc = .ok (.getfield i, 3)) (hc : vwCl[ci]? = some (C, T, N)) (hj : j < N) (hTC : (T j).1 = C) (hw : Cond.fieldLink own i C (T j).2.1 (T j).2.2.1 ∈ zTG)
    (hk : (zC a).1 = ci) (ha : a < st.1) (hy : yref (zty ci j) = true) (hA : yA st.2.1 a j = true) (k : yN p l e R s m args below meth c Q E x0 N0 n (pc + 3) L (.ref (zRf a j) :: r) st) : yN p l e R s m args below meth c Q E x0 N0 n pc L (.ref a :: r) st := by
  intro H locs ls hR hf hl
  obtain ⟨hx, hcc, hml, hown, hts, hF, -⟩ := X
  have hci := vwCl_lt hc
  obtain ⟨hin, hty, -⟩ := zcls_all ci hci C T N hc
  obtain ⟨h3, r', r1, r2, cell, q1, q2, q3, q4⟩ := yc_obj hR hk (by omega) ha
  cases hc.symm.trans r1
  obtain ⟨hS, hfc, kC, hkC, hkind⟩ := hF.1.1.1 ci _ hc
  obtain ⟨cf, kf, fi, f, hi, hsl⟩ := hS j hj
  have hi' := hi
  dsimp only at hi'
  rw [hTC] at hi'
  have r2 : N = (zC a).2 := r2
  have hv : zv E (yfv (yg x0 st.2.2) st.2.1 a j (zty ci j)) = .ref (zad E (zRf a j)) := by
    generalize zty ci j = ty at hy
    unfold yfv yrv
    cases ty <;> first | (cases hy; done) | (dsimp only; rw [hA]; rfl)
  exact W.getf hx hcc hown (hts _ hw) hi' (u_facts hfc hkC (u_lays hts hin hj) hi).1 q1 (by rw [q3]; exact fun h => by cases h) (by rw [hsl, q4 j (by rw [← r2]; exact hj)]; exact congrArg some hv) rfl rfl hd (k H locs ls hR hf hl)
theorem ys_iastore {pc : Nat} {a : Nat} {i x : Int32} {L : zLs} {r : List Value} {st : yS} (X : yX p R s m args meth c cc n own E) (hd : decode cc pc = .ok (.iastore, 1)) (hk : (zC a).1 = 100) (ha : a < st.1) (hi : zin i (zC a).2 = true)
    (k : yN p l e R s m args below meth c Q E x0 N0 n (pc + 1) L r (st.1, st.2.1, (a, i.toNatClampNeg, x) :: st.2.2)) : yN p l e R s m args below meth c Q E x0 N0 n pc L (.int x :: .int i :: .ref a :: r) st := by
  intro H locs ls hR hf hl
  obtain ⟨hx, hcc, hml, hown, hts, hF, -⟩ := X
  have h3 : 3 ≤ a := zC_3 hk (by omega)
  have hc : H[zad E a]? = some (arrV (E.2.2.1 0) (zC a).2 (fun j => .int ((yg x0 st.2.2).1 a j))) := by
    have hc := hR.2.2.2.1 a ha
    unfold ycell zcell at hc
    rw [hk] at hc
    exact hc
  have hi := zin_in hi
  refine W.iast hx hcc hc ((hF.1.1.2 0 (E.2.2.1 0, .int) rfl).1 _ _) (fun q => by cases q) (by rw [arrV_size]; exact hi) rfl rfl hd fun H' e1 e2 e3 => ?_
  refine k H' _ ls (yR_set hR h3 rfl (fun k hk => yg_other k hk) (fun _ _ _ => rfl) e2 e3 ?_ hR.2.2.2.2.1 (fun q hq => ?_)) (fun q hq => ?_) hl
  · unfold ycell zcell
    rw [hk]
    show H'[zad E a]? = some _
    rw [e1, arrV_store]
    congr 2
    funext j
    show updV _ _ _ _ = Value.int ((yg x0 ((a, i.toNatClampNeg, x) :: st.2.2)).1 a j)
    rw [yg_self h3]
    unfold updV
    split <;> rfl
  · rcases List.mem_cons.mp hq with rfl | h
    · exact ha
    · exact hR.2.2.2.2.2 q h
  · rcases List.mem_append.mp hq with q1 | q1
    · exact hf q q1
    · rw [List.mem_singleton.mp q1]
      show E.2.2.2.size ≤ zad E a
      rw [zad_hi h3]
      omega
end YS3
