/-! Runs of the machine of making are runs of the machine. -/
def yQ (E : zE) (x0 : Nat → Int32) (st : yS) : Array Value → State → Outcome → State → Prop := fun _ _ oc t => oc = .returned none ∧ yR E t x0 st t.heap ∧ yF E t
def yPc (E : zE) (x0 : Nat → Int32) (a : Nat) (st : yS) : Array Value → State → Prop := va_Pc [.ref (zad E a)] (fun U => yR E U x0 st U.heap ∧ yF E U)
def yRoom (k mc ms : Nat) : Room := { frames := k + 1, cells := mc, slots := ms, locals := 64 * (k + 1) }
theorem yPc_blind {E : zE} {x0 : Nat → Int32} {a : Nat} {st : yS} : FrameBlind (yPc E x0 a st) := fun b U g mk q => ⟨q.1, yR_s (s := U) (U := U.calling g mk b) (Vm.Alike.refl U.vm) q.2.1, yF_v (s := U) (U := U.calling g mk b) rfl q.2.2⟩
theorem zC_big : ∀ k, (zC k).2 ≤ 10000 := by
  intro k
  rcases Nat.lt_or_ge k zNc with h | h
  · have : ∀ k, k < zNc → (zC k).2 ≤ 10000 := by decide +kernel
    exact this k h
  · rw [zC_out h]
    decide
theorem yokM_spec {k : Nat} (hk : k < 13) : Cond.code (yIs k).1 (yIs k).2.1 (yMs k).1 none ∈ zTG ∧ Cond.initialized (yIs k).1.cls ∈ zTG ∧ Cond.instanceMethod (yIs k).1 ∈ zTG ∧ ((yIs k).1.cls ≠ "java/lang/invoke/MethodHandle" ∧ (yIs k).1.cls ≠ "java/lang/invoke/VarHandle") ∧ plainName (yIs k).1.cls = true ∧ (yMs k).1 ≤ 45 ∧ (∀ e ∈ (yMs k).2, yokE (yIs k).1.cls (yIs k).2.1 e = true) ∧ (yIs k).1.name = "<init>" ∧ (yIs k).1.desc = "()V" ∧ ycls k = (yIs k).1.cls ∧ 1 ≤ (yMs k).1 := by
  have h := List.all_eq_true.mp yok_all k (List.mem_range.mpr hk)
  unfold yokM at h
  simp only [Bool.and_eq_true] at h
  obtain ⟨h1, h2, h3, h4, h5, h6, h7, h8, h9⟩ := h
  split at h1
  · simp only [Bool.and_eq_true] at h1
    exact ⟨zok_word h1.1 rfl, zok_word h1.2.1 rfl, zok_word h1.2.2 rfl, of_decide_eq_true h2, h3, Nat.le_of_ble_eq_true h4, fun e he => List.all_eq_true.mp h5 e he, of_decide_eq_true h6, of_decide_eq_true h7, of_decide_eq_true h8, Nat.le_of_ble_eq_true h9⟩
  · cases h1
section YS5
variable {p : Program} {l : Launch} {e : Env} {R : Room} {s : State} {m : MethodId} {args : Array Value} {below : List Frame} {meth : Method} {c : Code} {Q : State → Prop} {E : zE} {n : Nat} {cc : ByteArray} {own : String} {x0 : Nat → Int32} {N0 : Nat}
/-- behind a call of a constructor -/
theorem y_call {H : Heap} {locs : List Loc} {ls : Array Slot} {pc cells slots mc ms : Nat} {st0 rest : List Value} {as : Array Value} {st' : yS} (hr : va_Run p l e R s m args below meth c H locs cells slots mc ms (F0 m pc ls st0) rest (yQ E x0 st' as) (zFree E)) (hf : ∀ q ∈ locs, E.2.2.2.size ≤ q.base)
    (kk : ∀ (H1 : Heap) (locs1 : List Loc), yR E s x0 st' H1 → (∀ q ∈ locs1, E.2.2.2.size ≤ q.base) → W p l e R s m args below meth c H1 locs1 (cells + mc) (slots + ms) Q (F0 m (pc + 3) ls rest)) : W p l e R s m args below meth c H locs cells slots Q (F0 m pc ls st0) := by
  intro T hT X
  obtain ⟨v, st₀, t, T', L, h0, X', hL, e1, e2, ⟨hv, hR, hF⟩, st⟩ := hr T hT X
  cases hv
  have hal : t.vm.Alike s.vm := by rw [← e2]; exact X'.warmed.alike.symm
  obtain ⟨t2, a1, b1⟩ := kk T'.heap (locs ++ L) (by rw [e1]; exact yR_s hal hR) (fun q hq => by
    rcases List.mem_append.mp hq with h | h
    · exact hf q h
    · exact hL q h) T' rfl X'
  exact ⟨t2, st t2 a1, b1⟩
/-- a call of a constructor that keeps its contract -/
theorem ys_ctor {i pc q a lev : Nat} {pl nest : Nat} {L : zLs} {r : List Value} {st st2 : yS} (X : yX p R s m args meth c cc n own E) (hd : decode cc pc = .ok (.invokespecial i, 3)) (hq : q < 13) (hlk : zokL own i (yIs q).1 pl nest = true)
    (hM : Met l (yIs q).1 (.code (yIs q).1 (yIs q).2.1 (yMs q).1 none :: zTG) (yRoom lev (st2.1 - st.1) (zcum st2.1 - zcum st.1)) (yPc E x0 a st) (yQ E x0 st2) (st2.1 - st.1) (zcum st2.1 - zcum st.1) (zFree E))
    (hcat : zcat r ≤ 8) (h0 : N0 ≤ st.1) (h2 : st.1 ≤ st2.1) (hRf : lev + 2 ≤ R.frames) (hRl : 64 * (lev + 2) ≤ R.locals) (hRc : st2.1 - N0 ≤ R.cells) (hRs : zcum st2.1 - zcum N0 ≤ R.slots)
    (k : yN p l e R s m args below meth c Q E x0 N0 n (pc + 3) L r st2) : yN p l e R s m args below meth c Q E x0 N0 n pc L (.ref a :: r) st := by
  obtain ⟨hx, hcc, hml, hown, hts, hF, -⟩ := X
  obtain ⟨w1, w2, w3, w4, w5, w6, w7, w8, w9, w10, w11⟩ := yokM_spec hq
  have hG : GoodIn zTG (Cond.code (yIs q).1 (yIs q).2.1 (yMs q).1 none :: zTG) := fun w hw => by
    rcases List.mem_cons.mp hw with rfl | hw
    · exact zTG_good _ w1
    · exact zTG_good _ hw
  have hroom : (yRoom lev (st2.1 - st.1) (zcum st2.1 - zcum st.1)).frames + 1 ≤ R.frames ∧ 8 + ((yMs q).1 + 11) + (yRoom lev (st2.1 - st.1) (zcum st2.1 - zcum st.1)).locals ≤ R.locals := by
    unfold yRoom
    dsimp only
    omega
  have hpd : (parseMethodDescriptor (yIs q).1.desc).map (fun d => d.parameters.length) = some 0 := by rw [w9]; decide +kernel
  intro H locs ls hR hf hl
  have z1 := zcum_le h0
  have z2 := zcum_le h2
  have hpre : PreS s H (yPc E x0 a st) (.ref (zad E a) :: []) := ⟨yPc_blind, fun U hU hW => ⟨rfl, by rw [hU]; exact yR_s hW.alike hR, yF_s hW hF⟩⟩
  have hrest : 2 * (F0 m pc ls (((Value.ref a :: r) : List Value).map (zv E))).monitorRoom + ((r.map (zv E)).map fun v => v.category).sum ≤ 8 := by
    rw [zcat_sum]
    show 2 * 0 + _ ≤ 8
    omega
  have hcs : st.1 - N0 + (st2.1 - st.1) ≤ R.cells ∧ zcum st.1 - zcum N0 + (zcum st2.1 - zcum st.1) ≤ R.slots := by omega
  have e1 : st.1 - N0 + (st2.1 - st.1) = st2.1 - N0 := by omega
  have e2 : zcum st.1 - zcum N0 + (zcum st2.1 - zcum st.1) = zcum st2.1 - zcum N0 := by omega
  unfold zokL at hlk
  cases hn : Nat.beq nest 0 with
  | true =>
    rw [hn] at hlk
    have hlk := zok_word hlk rfl
    refine y_call (va_runI (b := zad E a) (As := []) (rest := r.map (zv E)) ⟨hx, hcc, hml, hown, hts⟩ hM ⟨callB_of 0 hts hG rfl rfl rfl (hts _ w2) (hts _ hlk) ⟨w4.1, w4.2, hpd⟩ hroom, w8, hts _ w3⟩ hpre rfl rfl hl.1 rfl hrest hd hcs) hf (fun H1 locs1 hR1 hf1 => ?_)
    rw [e1, e2]
    exact k H1 locs1 ls hR1 hf1 hl
  | false =>
    rw [hn] at hlk
    have hlk := zok_nest hlk rfl
    refine y_call (va_runIN (host := "MarkedSweeps") (b := zad E a) (As := []) (rest := r.map (zv E)) ⟨hx, hcc, hml, hown, hts⟩ hM ⟨va_cnB 0 hts hG rfl rfl rfl (hF.1.2.1 _ hlk) (hts _ w2) ⟨w4.1, w4.2, hpd⟩ hroom, w8, hts _ w3⟩ hpre rfl rfl hl.1 rfl hrest hd hcs) hf (fun H1 locs1 hR1 hf1 => ?_)
    rw [e1, e2]
    exact k H1 locs1 ls hR1 hf1 hl
theorem yw_obj : Cond.instanceMethod Lib.objectInit ∈ zTG ∧ Cond.code Lib.objectInit ⟨#[0xb1]⟩ 1 none ∈ zTG := by decide +kernel
end YS5
/-- what a run of a constructor's code gives, at fuel F -/
def yP (l : Launch) (E : zE) (x0 : Nat → Int32) (F : Nat) : Prop :=
  ∀ (p : Program) (e : Env) (R : Room) (s : State) (m : MethodId) (args : Array Value) (below : List Frame) (meth : Method) (c : Code) (ci N0 pc : Nat) (L : zLs) (S : List Value) (st st' : yS), ci < 13 → yX p R s m args meth c (yIs ci).2.1 (yMs ci).1 (yIs ci).1.cls E → meth.name = "<init>" → meth.sig.returnType = none → meth.locks = false → F + 1 ≤ R.frames → 64 * (F + 1) ≤ R.locals → st'.1 - N0 ≤ R.cells → zcum st'.1 - zcum N0 ≤ R.slots → N0 ≤ st.1 → yrun F ci pc L S st = some st' →
    yN p l e R s m args below meth c (MQ below (yQ E x0 st') args s (st'.1 - N0) (zcum st'.1 - zcum N0) (zFree E)) E x0 N0 (yMs ci).1 pc L S st
theorem yMet_of {l : Launch} {E : zE} {x0 : Nat → Int32} {F : Nat} (hP : yP l E x0 F) {q a : Nat} {st st2 : yS} (hq : q < 13) (hx : yrun F q 0 [(0, .ref a)] [] st = some st2) :
    Met l (yIs q).1 (.code (yIs q).1 (yIs q).2.1 (yMs q).1 none :: zTG) (yRoom F (st2.1 - st.1) (zcum st2.1 - zcum st.1)) (yPc E x0 a st) (yQ E x0 st2) (st2.1 - st.1) (zcum st2.1 - zcum st.1) (zFree E) := by
  obtain ⟨w1, w2, w3, w4, w5, w6, w7, w8, w9, w10, w11⟩ := yokM_spec hq
  refine Met.ofW (cc := (yIs q).2.1) (maxL := (yMs q).1) (ret := none) w5 rfl ?_
  intro p e s m args below meth c s₁ B hml hv
  obtain ⟨rfl, hR, hF⟩ := hv
  have hts0 := atoms_spec (ws := Cond.code (yIs q).1 (yIs q).2.1 (yMs q).1 none :: zTG) B.pre
  have hin : meth.name = "<init>" := by rw [(name_of_methodNamed B.named B.method).1]; exact w8
  have X : yX p (yRoom F (st2.1 - st.1) (zcum st2.1 - zcum st.1)) s m [Value.ref (zad E a)].toArray meth c (yIs q).2.1 (yMs q).1 (yIs q).1.cls E := ⟨B.exec, B.bytes, hml, findClass_of_methodNamed B.named, fun w hw => hts0 w (List.mem_cons_of_mem _ hw), hF, by show 1 ≤ F + 1; omega, by show 64 ≤ 64 * (F + 1); omega⟩
  have hn := hP p e _ s m _ below meth c q st.1 0 [(0, .ref a)] [] st st2 hq X hin B.returns B.notSynchronized (Nat.le_refl _) (Nat.le_refl _) (Nat.le_refl _) (Nat.le_refl _) (Nat.le_refl _) hx
  have hl := lv_entry ([.ref (zad E a)]) (n := (yMs q).1) (by show 1 ≤ _; exact w11)
  rw [lg_entry_eq]
  have := hn s.heap [] _ hR (fun q hq => by cases hq) hl
  rw [Nat.sub_self, Nat.sub_self] at this
  exact this
theorem ysound (l : Launch) (E : zE) (x0 : Nat → Int32) : ∀ F, yP l E x0 F
  | 0 => fun p e R s m args below meth c ci N0 pc L S st st' _ _ _ _ _ _ _ _ _ _ hx => by cases hx
  | F + 1 => by
    have ih := ysound l E x0 F
    intro p e R s m args below meth c ci N0 pc L S st st' hci X hin9 hr hlocks hRf hRl hRc hRs h0 hx
    obtain ⟨w1, w2, w3, w4, w5, w6, w7, w8, w9, w10, w11⟩ := yokM_spec hci
    have go : ∀ (pc2 : Nat) (L2 : zLs) (S2 : List Value) (st2 : yS), N0 ≤ st2.1 → yrun F ci pc2 L2 S2 st2 = some st' → yN p l e R s m args below meth c (MQ below (yQ E x0 st') args s (st'.1 - N0) (zcum st'.1 - zcum N0) (zFree E)) E x0 N0 (yMs ci).1 pc2 L2 S2 st2 :=
      fun pc2 L2 S2 st2 h2 hx2 => ih p e R s m args below meth c ci N0 pc2 L2 S2 st2 st' hci X hin9 hr hlocks (by omega) (by omega) hRc hRs h2 hx2
    unfold yrun at hx
    split at hx
    · cases hx
    · rename_i e0 he0
      obtain ⟨hmem, hpc⟩ := ylk_mem he0
      have hok := w7 e0 hmem
      obtain ⟨pc0, ins, nx, hs, v⟩ := e0
      dsimp only at hpc hx
      subst hpc
      have hok2 := hok
      unfold yokE at hok2
      rw [Bool.and_eq_true] at hok2
      have hd0 : decode (yIs ci).2.1 pc0 = .ok (ins, nx - pc0) := of_decide_eq_true hok2.1
      have hi0 : yokI (yIs ci).1.cls pc0 ins nx hs v = true := hok2.2
      clear hok2
      split at hx
      · cases hx
        have hnx : nx = pc0 + 1 := Nat.eq_of_beq_eq_true hi0
        rw [hnx, Nat.add_sub_cancel_left] at hd0
        intro H locs ls hR hf hl
        exact W.vret X.1 X.2.1 hr (fun t ht hw => ⟨rfl, by rw [ht]; exact yR_s hw.alike hR, yF_s hw X.2.2.2.2.2.1⟩) hf hd0 hlocks
      · rename_i i q w a r
        have hi1 := Bool.and_eq_true_iff.mp hi0
        have hnx : nx = pc0 + 3 := Nat.eq_of_beq_eq_true hi1.1
        have hw := hi1.2
        rw [hnx, Nat.add_sub_cancel_left] at hd0
        subst hnx
        cases hb : Nat.beq q 998 with
        | true =>
          rw [hb] at hx
          obtain ⟨hcat, hx⟩ := zcond (show cond (Nat.ble (zcat r) 8) _ none = some st' from hx)
          have hcat := Nat.le_of_ble_eq_true hcat
          have hlk : Cond.methodLink (yIs ci).1.cls i Lib.objectInit ∈ zTG := by
            split at hw
            · rename_i e2
              simp only [Bool.and_eq_true] at hw
              exact zok_word hw.2 rfl
            · rename_i e2
              cases e2
              simp only [Bool.and_eq_true] at hw
              have h9 := Nat.blt_eq.mp hw.1
              have h8 := Nat.eq_of_beq_eq_true hb
              omega
            · cases hw
          have hgo := go _ _ _ _ h0 hx
          intro H locs ls hR hf hl
          have hcs := zcat_sum (E := E) r
          exact W.objInit X.1 X.2.1 X.2.2.2.1 (X.2.2.2.2.1 _ hlk) (X.2.2.2.2.1 _ yw_obj.1) (X.2.2.2.2.1 _ yw_obj.2) rfl (by rw [X.2.2.1]; exact hl.1) rfl hd0 X.2.2.2.2.2.2.1 (by
            have := X.2.2.2.2.2.2.2
            show 2 * 0 + _ + 12 ≤ _
            omega) (hgo H locs ls hR hf hl)
        | false =>
          rw [hb] at hx
          obtain ⟨hg, hx⟩ := zcond hx
          simp only [Bool.and_eq_true] at hg
          have hq := Nat.blt_eq.mp hg.1
          have hcat := Nat.le_of_ble_eq_true hg.2.2.2
          split at hx
          · cases hx
          · rename_i st2 h5
            have hn1 := yrun_N _ _ _ _ _ _ _ h5
            have hn2 := yrun_N _ _ _ _ _ _ _ hx
            have z1 := zcum_le hn2
            split at hw
            · rename_i e2
              cases e2
              simp only [Bool.and_eq_true] at hw
              rw [hb] at hw
              exact absurd hw.1 (by decide)
            · rename_i e2
              cases e2
              simp only [Bool.and_eq_true] at hw
              exact ys_ctor (lev := F) X hd0 hq hw.2 (yMet_of ih hq h5) hcat h0 hn1 (by omega) (by omega) (by omega) (by omega) (go _ _ _ _ (by omega) hx)
            · cases hw
      · split at hx
        · cases hx
        · rename_i o ho
          have hn1 := yex_N ho
          have hn2 := yrun_N _ _ _ _ _ _ _ hx
          have z1 := zcum_le hn2
          exact ys_all X (fun _ _ => hin9) hok ho h0 (by omega) (by omega) zC_big (go _ _ _ _ (by omega) hx)
