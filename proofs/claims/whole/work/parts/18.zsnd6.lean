/-! Calls, blocks, runs: what the abstract machine answers, the machine answers. -/
section ZS6
variable {p : Program} {l : Launch} {e : Env} {R : Room} {s : State} {m : MethodId} {args : Array Value} {below : List Frame} {meth : Method} {c : Code} {Q : State → Prop} {E : zE} {n : Nat} {cc : ByteArray} {own : String} {rt : Option FieldType} {kc ks : Nat}
theorem zpop_spec : ∀ (n : Nat) (acc S as r : List Value), zpop n acc S = some (as, r) → ∃ pre, S = pre ++ r ∧ as = pre.reverse ++ acc ∧ pre.length = n
  | 0, acc, S, as, r, h => by
    cases h
    exact ⟨[], rfl, rfl, rfl⟩
  | n + 1, acc, [], as, r, h => by cases h
  | n + 1, acc, v :: S, as, r, h => by
    obtain ⟨pre, h1, h2, h3⟩ := zpop_spec n (v :: acc) S as r h
    exact ⟨v :: pre, by rw [h1]; rfl, by rw [h2]; simp, by rw [List.length_cons, h3]⟩
/-- what the check says of a method that is called -/
theorem zokM_spec {k : Nat} (h : zokM k = true) : Cond.code (zI k).1 (zI k).2.1 (zMs k).1 (zMs k).2.1 ∈ zTG ∧ Cond.initialized (zI k).1.cls ∈ zTG ∧ ((zI k).2.2.1 = true → Cond.static (zI k).1 ∈ zTG) ∧ ((zI k).2.2.1 = false → Cond.instanceMethod (zI k).1 ∈ zTG ∧ Cond.selects (zI k).1.cls (zI k).1 (zI k).1 ∈ zTG) ∧ ((zI k).1.cls ≠ "java/lang/invoke/MethodHandle" ∧ (zI k).1.cls ≠ "java/lang/invoke/VarHandle") ∧ plainName (zI k).1.cls = true ∧ (zMs k).1 ≤ 45 ∧ (∀ e ∈ (zMs k).2.2.2.2, zokE (zI k).1.cls (zI k).2.1 e = true) ∧ (k = zLI → (zMs k).2.2.2.1 = []) ∧ zcut 0 (zMs k).2.2.2.1 = none := by
  unfold zokM at h
  simp only [Bool.and_eq_true] at h
  obtain ⟨h1, h2, h3, h4, h5, h6, h7⟩ := h
  unfold zokP at h1
  split at h1
  · simp only [Bool.and_eq_true] at h1
    obtain ⟨a, b, d⟩ := h1
    refine ⟨zok_word a rfl, zok_word b rfl, fun hs => ?_, fun hs => ?_, of_decide_eq_true h2, h3, Nat.le_of_ble_eq_true h4, fun e he => List.all_eq_true.mp h5 e he, fun hk => ?_, of_decide_eq_true h7⟩
    · rw [hs] at d
      exact zok_word d rfl
    · rw [hs] at d
      simp only [cond_false, Bool.and_eq_true] at d
      exact ⟨zok_word d.1 rfl, zok_word d.2 rfl⟩
    · rw [hk] at h6 ⊢
      simpa [zbeqt] using h6
  · cases h1
theorem zarr (as : List Value) (f : Value → Value) : (as.map f).toArray = (as.map f).toArray := rfl
/-- a call of a method that keeps its contract -/
theorem zs_call {i : Nat} {virt : Bool} {pc nx : Nat} {hs : List Nat} {v : Value} {L L' : zLs} {S S' : List Value} {h h1 h2 : zIJ} {b : Bool} {t : Nat} {as : List Value} {r : Option Value} {lev lev2 : Nat} (X : zX p R kc ks s m args meth c cc n own rt E)
    (hok : zokE own cc (pc, (if virt then Instr.invokevirtual i else Instr.invokestatic i), nx, hs, v) = true) (hz : zinv virt hs L S h = some (3, b, t, as, L', S', h1)) (hq : virt = false → t < zNm) (hb : b = true) (hkm : zokM t = true)
    (hM : zMet l E (zI t).1 (zI t).2.1 (zMs t).1 (zMs t).2.1 lev2 as h1 r h2) (hlev : lev2 < lev) (hRf : lev + 1 ≤ R.frames) (hRl : 64 * (lev + 1) ≤ R.locals)
    (k : zN p l e R s m args below meth c Q E kc ks n nx L' (r.toList ++ S') h2) : zN p l e R s m args below meth c Q E kc ks n pc L S h := by
  obtain ⟨hx, hcc, hml, hown, hts, hF, -, -, -, -, hkc, hks⟩ := X
  obtain ⟨w1, w2, w3, w4, w5, -, w7, -, -, -⟩ := zokM_spec hkm
  unfold zokE at hok
  rw [Bool.and_eq_true] at hok
  obtain ⟨hd0, hi0⟩ := hok
  have hG : GoodIn zTG (Cond.code (zI t).1 (zI t).2.1 (zMs t).1 (zMs t).2.1 :: zTG) := fun w hw => by
    rcases List.mem_cons.mp hw with rfl | hw
    · exact zTG_good _ w1
    · exact zTG_good _ hw
  have hroom : (zRoom lev2).frames + 1 ≤ R.frames ∧ 8 + ((zMs t).1 + 11) + (zRoom lev2).locals ≤ R.locals := by
    unfold zRoom
    dsimp only
    omega
  have hrest : ∀ (ls : Array Slot) (st : List Value), zcat S' ≤ 8 → 2 * (F0 m pc ls st).monitorRoom + ((S'.map (zv E)).map fun v => v.category).sum ≤ 8 := fun ls st hcat => by
    rw [zcat_sum]
    show 2 * 0 + _ ≤ 8
    omega
  cases virt with
  | true =>
    have hd : decode cc pc = .ok (.invokevirtual i, nx - pc) := of_decide_eq_true hd0
    have hi : (Nat.beq nx (pc + 3) && zokV own i hs) = true := hi0
    clear hd0 hi0
    rw [Bool.and_eq_true] at hi
    have hnx : nx = pc + 3 := Nat.eq_of_beq_eq_true hi.1
    rw [hnx, Nat.add_sub_cancel_left] at hd
    subst hnx
    have hw := hi.2
    unfold zokV at hw
    split at hw
    · rename_i t0 na rk lv ci pl nest
      unfold zinv at hz
      dsimp only at hz
      split at hz
      · rename_i as0 r0 hp
        have hzc := zcond hz
        clear hz
        obtain ⟨hcat0, hz⟩ := hzc
        have hcat := Nat.le_of_ble_eq_true hcat0
        clear hcat0
        simp only [cond_true] at hz
        split at hz
        · rename_i a as1
          cases hz
          simp only [Bool.and_eq_true] at hw
          obtain ⟨v1, v2, v3, v4, v5, v6, v7⟩ := hw
          obtain ⟨pre, p1, p2, p3⟩ := zpop_spec _ _ _ _ _ hp
          rw [List.append_nil] at p2
          have hS : S = (Value.ref a :: as1).reverse ++ S' := by rw [p2, List.reverse_reverse]; exact p1
          have hv5 := of_decide_eq_true v5
          have hv6 := of_decide_eq_true v6
          have hst : (zI t).2.2.1 = false := by simpa using v2
          cases hcl : vwCl[ci]? with
          | none => rw [hcl] at hv5; cases hv5
          | some rc =>
            rw [hcl] at hv5
            have hC : rc.1 = (zI t).1.cls := Option.some.inj hv5
            intro H locs ls hR hf hl
            obtain ⟨h3, r', r1, r2, cell, q1, q2, q3, q4⟩ := zc_obj hR (Nat.eq_of_beq_eq_true hb) (by have := vwCl_lt hcl; omega)
            obtain ⟨hSl, hfc, -⟩ := hF.1.1 ci _ hcl
            have hlen : (as1.map (zv E)).length = na - 1 := by
              rw [List.length_map]
              have : (Value.ref a :: as1).length = na := by rw [p2, List.length_reverse]; exact p3
              rw [List.length_cons] at this
              omega
            have hpd : (parseMethodDescriptor (zI t).1.desc).map (fun d => d.parameters.length) = some (na - 1) := by
              cases hpm : parseMethodDescriptor (zI t).1.desc with
              | none => rw [hpm] at hv6; cases hv6
              | some d =>
                rw [hpm] at hv6
                have h9 : d.parameters.length + 1 = na := Option.some.inj hv6
                show some d.parameters.length = some (na - 1)
                congr 1
                omega
            have hpre : PreV s H (zI t).1.cls (zad E a) (zPc E (.ref a :: as1) h) (as1.map (zv E)) := ⟨zPc_blind, ⟨cell, q1, by rw [q3]; rfl, by rw [← hC, q2]; exact hfc⟩, fun U hU hW => ⟨rfl, by rw [hU]; exact zR_s hW.alike hR, zF_s hW hF⟩⟩
            have hstk : S.map (zv E) = (as1.map (zv E)).reverse ++ .ref (zad E a) :: S'.map (zv E) := by
              rw [hS, List.reverse_cons, List.map_append, List.map_append, List.map_reverse]
              simp [zv]
            unfold zokL at v7
            cases hn : Nat.beq nest 0 with
            | true =>
              rw [hn] at v7
              have hlk := zok_word v7 rfl
              refine z_call (va_runV (b := zad E a) (As := as1.map (zv E)) (rest := S'.map (zv E)) ⟨hx, hcc, hml, hown, hts⟩ hM ⟨callB_of (na - 1) hts hG rfl rfl rfl (hts _ w2) (hts _ hlk) ⟨w5.1, w5.2, hpd⟩ hroom, hts _ (w4 hst).1, hts _ (w4 hst).2⟩ hpre rfl hlen hl.1 hstk (hrest ls _ hcat) hd ⟨hkc, hks⟩) hf (fun H1 locs1 hR1 hf1 => ?_)
              have := k H1 locs1 ls hR1 hf1 hl
              rw [List.map_append] at this
              cases r <;> exact this
            | false =>
              rw [hn] at v7
              have hlk := zok_nest v7 rfl
              refine z_call (va_runVN (host := "MarkedSweeps") (b := zad E a) (As := as1.map (zv E)) (rest := S'.map (zv E)) ⟨hx, hcc, hml, hown, hts⟩ hM ⟨va_cnB (na - 1) hts hG rfl rfl rfl (hF.2.1 _ hlk) (hts _ w2) ⟨w5.1, w5.2, hpd⟩ hroom, hts _ (w4 hst).1, hts _ (w4 hst).2⟩ hpre rfl hlen hl.1 hstk (hrest ls _ hcat) hd ⟨hkc, hks⟩) hf (fun H1 locs1 hR1 hf1 => ?_)
              have := k H1 locs1 ls hR1 hf1 hl
              rw [List.map_append] at this
              cases r <;> exact this
        · cases hz
      · cases hz
    · cases hw
  | false =>
    have hd : decode cc pc = .ok (.invokestatic i, nx - pc) := of_decide_eq_true hd0
    have hi : (Nat.beq nx (pc + 3) && zokU own i hs) = true := hi0
    clear hd0 hi0
    rw [Bool.and_eq_true] at hi
    have hnx : nx = pc + 3 := Nat.eq_of_beq_eq_true hi.1
    rw [hnx, Nat.add_sub_cancel_left] at hd
    subst hnx
    have hw := hi.2
    have hq := hq rfl
    unfold zinv at hz
    split at hz
    · rename_i t0 na rk lv ci rest0
      split at hz
      · rename_i as0 r0 hp
        have hzc := zcond hz
        clear hz
        obtain ⟨hcat0, hz⟩ := hzc
        have hcat := Nat.le_of_ble_eq_true hcat0
        clear hcat0
        simp only [cond_false] at hz
        cases hz
        unfold zokU at hw
        split at hw
        · rename_i e0
          cases e0
          simp only [Bool.and_eq_true] at hw
          obtain ⟨v1, v2, v3, v4, v6, v7⟩ := hw
          obtain ⟨pre, p1, p2, p3⟩ := zpop_spec _ _ _ _ _ hp
          rw [List.append_nil] at p2
          have hS : S = as.reverse ++ S' := by rw [p2, List.reverse_reverse]; exact p1
          have hpd := of_decide_eq_true v6
          intro H locs ls hR hf hl
          have hlen : (as.map (zv E)).length = na := by rw [List.length_map, p2, List.length_reverse]; exact p3
          have hpre : PreS s H (zPc E as h) (as.map (zv E)) := ⟨zPc_blind, fun U hU hW => ⟨rfl, by rw [hU]; exact zR_s hW.alike hR, zF_s hW hF⟩⟩
          have hstk : S.map (zv E) = (as.map (zv E)).reverse ++ S'.map (zv E) := by
            rw [hS, List.map_append, List.map_reverse]
          unfold zokL at v7
          cases hn : Nat.beq _ 0 with
          | true =>
            rw [hn] at v7
            have hlk := zok_word v7 rfl
            refine z_call (va_runS (As := as.map (zv E)) (rest := S'.map (zv E)) ⟨hx, hcc, hml, hown, hts⟩ hM ⟨callB_of na hts hG rfl rfl rfl (hts _ w2) (hts _ hlk) ⟨w5.1, w5.2, hpd⟩ hroom, hts _ (w3 v2)⟩ hpre rfl hlen hl.1 hstk (hrest ls _ hcat) hd ⟨hkc, hks⟩) hf (fun H1 locs1 hR1 hf1 => ?_)
            have := k H1 locs1 ls hR1 hf1 hl
            rw [List.map_append] at this
            cases r <;> exact this
          | false =>
            rw [hn] at v7
            have hlk := zok_nest v7 rfl
            refine z_call (va_runSN (host := "MarkedSweeps") (As := as.map (zv E)) (rest := S'.map (zv E)) ⟨hx, hcc, hml, hown, hts⟩ hM ⟨va_cnB na hts hG rfl rfl rfl (hF.2.1 _ hlk) (hts _ w2) ⟨w5.1, w5.2, hpd⟩ hroom, hts _ (w3 v2), trivial⟩ hpre rfl hlen hl.1 hstk (hrest ls _ hcat) hd ⟨hkc, hks⟩) hf (fun H1 locs1 hR1 hf1 => ?_)
            have := k H1 locs1 ls hR1 hf1 hl
            rw [List.map_append] at this
            cases r <;> exact this
        · rename_i e0
          cases e0
        · rename_i e0
          cases e0
        · cases hw
      · cases hz
    · cases hz
/-- fewer locals -/
theorem zN_sub {pc : Nat} {L L2 : zLs} {S : List Value} {h : zIJ} (hs : ∀ q ∈ L2, q ∈ L) (k : zN p l e R s m args below meth c Q E kc ks n pc L2 S h) : zN p l e R s m args below meth c Q E kc ks n pc L S h := by
  intro H locs ls hR hf hl
  refine k H locs ls hR hf ⟨hl.1, hl.2.1, fun q hq => ?_⟩
  obtain ⟨q2, h1, h2⟩ := List.mem_map.mp hq
  exact hl.2.2 q (List.mem_map.mpr ⟨q2, hs q2 h1, h2⟩)
theorem zpick_zip {L : zLs} : ∀ (lv : List Nat) (vs : List Value) (L2 : zLs), zpick L lv = some vs → zzip lv vs = some L2 → ∀ q ∈ L2, q ∈ L
  | [], vs, L2, h1, h2 => by
    cases h1
    cases h2
    intro q hq
    cases hq
  | i :: r, vs, L2, h1, h2 => by
    unfold zpick at h1
    cases hv : zlv i L with
    | none => rw [hv] at h1; cases h1
    | some v =>
      simp only [hv] at h1
      cases hp : zpick L r with
      | none => rw [hp] at h1; cases h1
      | some vs2 =>
        rw [hp] at h1
        cases h1
        unfold zzip at h2
        cases hz : zzip r vs2 with
        | none => simp only [hz] at h2; cases h2
        | some L3 =>
          simp only [hz] at h2
          cases h2
          intro q hq
          rcases List.mem_cons.mp hq with rfl | hq
          · exact zlv_mem hv
          · exact zpick_zip r vs2 L3 hp hz q hq
/-- what a run of the method's own blocks, and of the methods that it calls, gives -/
def zCalls (l : Launch) (E : zE) (lev : Nat) (C : Nat → List Value → zIJ → Option zRes) : Prop :=
  ∀ (t : Nat) (as : List Value) (h : zIJ) (x : zRes), C t as h = some x → t < zNm → zlev t (zMs t).2.2.1 as < lev → zMet l E (zI t).1 (zI t).2.1 (zMs t).1 (zMs t).2.1 (zlev t (zMs t).2.2.1 as) as h x.1 x.2
theorem zc_tag {b : Bool} {a : Option zO} {o : zO} {T : Nat} (h : cond b a none = some o) (k : a = some o → o.1 = T) : o.1 = T := by
  obtain ⟨-, h⟩ := zcond h
  exact k h
theorem zcst_tag {v : Value} {L : zLs} {S : List Value} {h : zIJ} {o : zO} (hz : zcst v L S h = some o) : o.1 = 0 := by
  unfold zcst at hz
  split at hz <;> first | (cases hz; rfl; done) | (obtain ⟨-, hz⟩ := zcond hz; cases hz; rfl; done) | (cases hz; done)
theorem zldI_tag {i : Nat} {L : zLs} {S : List Value} {h : zIJ} {o : zO} (hz : zldI i L S h = some o) : o.1 = 0 := by
  unfold zldI at hz
  split at hz <;> first | (cases hz; rfl; done) | (obtain ⟨-, hz⟩ := zcond hz; cases hz; rfl; done) | (cases hz; done)
theorem zldL_tag {i : Nat} {L : zLs} {S : List Value} {h : zIJ} {o : zO} (hz : zldL i L S h = some o) : o.1 = 0 := by
  unfold zldL at hz
  split at hz <;> first | (cases hz; rfl; done) | (obtain ⟨-, hz⟩ := zcond hz; cases hz; rfl; done) | (cases hz; done)
theorem zldA_tag {i : Nat} {L : zLs} {S : List Value} {h : zIJ} {o : zO} (hz : zldA i L S h = some o) : o.1 = 0 := by
  unfold zldA at hz
  split at hz <;> first | (cases hz; rfl; done) | (obtain ⟨-, hz⟩ := zcond hz; cases hz; rfl; done) | (cases hz; done)
theorem zstI_tag {n i : Nat} {L : zLs} {S : List Value} {h : zIJ} {o : zO} (hz : zstI n i L S h = some o) : o.1 = 0 := by
  unfold zstI at hz
  split at hz <;> first | (cases hz; rfl; done) | (obtain ⟨-, hz⟩ := zcond hz; cases hz; rfl; done) | (cases hz; done)
theorem zstL_tag {n i : Nat} {L : zLs} {S : List Value} {h : zIJ} {o : zO} (hz : zstL n i L S h = some o) : o.1 = 0 := by
  unfold zstL at hz
  split at hz <;> first | (cases hz; rfl; done) | (obtain ⟨-, hz⟩ := zcond hz; cases hz; rfl; done) | (cases hz; done)
theorem zstA_tag {n i : Nat} {L : zLs} {S : List Value} {h : zIJ} {o : zO} (hz : zstA n i L S h = some o) : o.1 = 0 := by
  unfold zstA at hz
  split at hz <;> first | (cases hz; rfl; done) | (obtain ⟨-, hz⟩ := zcond hz; cases hz; rfl; done) | (cases hz; done)
theorem zinc_tag {n i : Nat} {v : Value} {L : zLs} {S : List Value} {h : zIJ} {o : zO} (hz : zinc n i v L S h = some o) : o.1 = 0 := by
  unfold zinc at hz
  split at hz <;> first | (cases hz; rfl; done) | (obtain ⟨-, hz⟩ := zcond hz; cases hz; rfl; done) | (cases hz; done)
theorem zbI_tag {f : Int32 → Int32 → Int32} {L : zLs} {S : List Value} {h : zIJ} {o : zO} (hz : zbI f L S h = some o) : o.1 = 0 := by
  unfold zbI at hz
  split at hz <;> first | (cases hz; rfl; done) | (obtain ⟨-, hz⟩ := zcond hz; cases hz; rfl; done) | (cases hz; done)
theorem zbL_tag {f : Int64 → Int64 → Int64} {L : zLs} {S : List Value} {h : zIJ} {o : zO} (hz : zbL f L S h = some o) : o.1 = 0 := by
  unfold zbL at hz
  split at hz <;> first | (cases hz; rfl; done) | (obtain ⟨-, hz⟩ := zcond hz; cases hz; rfl; done) | (cases hz; done)
theorem zsh_tag {f : Int64 → Int32 → Int64} {L : zLs} {S : List Value} {h : zIJ} {o : zO} (hz : zsh f L S h = some o) : o.1 = 0 := by
  unfold zsh at hz
  split at hz <;> first | (cases hz; rfl; done) | (obtain ⟨-, hz⟩ := zcond hz; cases hz; rfl; done) | (cases hz; done)
theorem zdI_tag {f : Int32 → Int32 → Int32} {L : zLs} {S : List Value} {h : zIJ} {o : zO} (hz : zdI f L S h = some o) : o.1 = 0 := by
  unfold zdI at hz
  split at hz <;> first | (cases hz; rfl; done) | (obtain ⟨-, hz⟩ := zcond hz; cases hz; rfl; done) | (cases hz; done)
theorem zdL_tag {f : Int64 → Int64 → Int64} {L : zLs} {S : List Value} {h : zIJ} {o : zO} (hz : zdL f L S h = some o) : o.1 = 0 := by
  unfold zdL at hz
  split at hz <;> first | (cases hz; rfl; done) | (obtain ⟨-, hz⟩ := zcond hz; cases hz; rfl; done) | (cases hz; done)
theorem zuI_tag {f : Int32 → Int32} {L : zLs} {S : List Value} {h : zIJ} {o : zO} (hz : zuI f L S h = some o) : o.1 = 0 := by
  unfold zuI at hz
  split at hz <;> first | (cases hz; rfl; done) | (obtain ⟨-, hz⟩ := zcond hz; cases hz; rfl; done) | (cases hz; done)
theorem zif1_tag {f : Int32 → Bool} {hs : List Nat} {L : zLs} {S : List Value} {h : zIJ} {o : zO} (hz : zif1 f hs L S h = some o) : o.1 = 2 := by
  unfold zif1 at hz
  split at hz <;> first | (cases hz; rfl; done) | (obtain ⟨-, hz⟩ := zcond hz; cases hz; rfl; done) | (cases hz; done)
theorem zif2_tag {f : Int32 → Int32 → Bool} {hs : List Nat} {L : zLs} {S : List Value} {h : zIJ} {o : zO} (hz : zif2 f hs L S h = some o) : o.1 = 2 := by
  unfold zif2 at hz
  split at hz <;> first | (cases hz; rfl; done) | (obtain ⟨-, hz⟩ := zcond hz; cases hz; rfl; done) | (cases hz; done)
theorem zgf_tag {hs : List Nat} {L : zLs} {S : List Value} {h : zIJ} {o : zO} (hz : zgf hs L S h = some o) : o.1 = 0 := by
  unfold zgf at hz
  split at hz <;> first | (cases hz; rfl; done) | (obtain ⟨-, hz⟩ := zcond hz; cases hz; rfl; done) | (cases hz; done)
theorem zpfT_tag {ty : FieldType} {g : Bool} {a j : Nat} {v : Value} {L : zLs} {S : List Value} {h : zIJ} {o : zO} (hz : zpfT ty g a j v L S h = some o) : o.1 = 0 := by
  unfold zpfT at hz
  split at hz <;> first | (cases hz; rfl; done) | (obtain ⟨-, hz⟩ := zcond hz; cases hz; rfl; done) | (cases hz; done)
theorem zpf_tag {hs : List Nat} {L : zLs} {S : List Value} {h : zIJ} {o : zO} (hz : zpf hs L S h = some o) : o.1 = 0 := by
  unfold zpf at hz
  split at hz
  · exact zpfT_tag hz
  · cases hz
theorem zai_tag  {L : zLs} {S : List Value} {h : zIJ} {o : zO} (hz : zai  L S h = some o) : o.1 = 0 := by
  unfold zai at hz
  split at hz <;> first | (cases hz; rfl; done) | (obtain ⟨-, hz⟩ := zcond hz; cases hz; rfl; done) | (cases hz; done)
theorem zal_tag  {L : zLs} {S : List Value} {h : zIJ} {o : zO} (hz : zal  L S h = some o) : o.1 = 0 := by
  unfold zal at hz
  split at hz <;> first | (cases hz; rfl; done) | (obtain ⟨-, hz⟩ := zcond hz; cases hz; rfl; done) | (cases hz; done)
theorem zaa_tag  {L : zLs} {S : List Value} {h : zIJ} {o : zO} (hz : zaa  L S h = some o) : o.1 = 0 := by
  unfold zaa at hz
  split at hz <;> first | (cases hz; rfl; done) | (obtain ⟨-, hz⟩ := zcond hz; cases hz; rfl; done) | (cases hz; done)
theorem zsi_tag  {L : zLs} {S : List Value} {h : zIJ} {o : zO} (hz : zsi  L S h = some o) : o.1 = 0 := by
  unfold zsi at hz
  split at hz <;> first | (cases hz; rfl; done) | (obtain ⟨-, hz⟩ := zcond hz; cases hz; rfl; done) | (cases hz; done)
theorem zsl_tag  {L : zLs} {S : List Value} {h : zIJ} {o : zO} (hz : zsl  L S h = some o) : o.1 = 0 := by
  unfold zsl at hz
  split at hz <;> first | (cases hz; rfl; done) | (obtain ⟨-, hz⟩ := zcond hz; cases hz; rfl; done) | (cases hz; done)
theorem zan_tag  {L : zLs} {S : List Value} {h : zIJ} {o : zO} (hz : zan  L S h = some o) : o.1 = 0 := by
  unfold zan at hz
  split at hz <;> first | (cases hz; rfl; done) | (obtain ⟨-, hz⟩ := zcond hz; cases hz; rfl; done) | (cases hz; done)
theorem zdup_tag  {L : zLs} {S : List Value} {h : zIJ} {o : zO} (hz : zdup  L S h = some o) : o.1 = 0 := by
  unfold zdup at hz
  split at hz <;> first | (cases hz; rfl; done) | (obtain ⟨-, hz⟩ := zcond hz; cases hz; rfl; done) | (cases hz; done)
theorem zdup2_tag {L : zLs} {S : List Value} {h : zIJ} {o : zO} (hz : zdup2 L S h = some o) : o.1 = 0 := by
  unfold zdup2 at hz
  split at hz
  · rename_i v r
    cases hb : Nat.beq v.category 2 with
    | true => rw [hb] at hz; cases hz; rfl
    | false =>
      rw [hb] at hz
      dsimp only [cond_false] at hz
      split at hz
      · obtain ⟨-, hz⟩ := zcond hz; cases hz; rfl
      · cases hz
  · cases hz
theorem zcmpS_tag  {L : zLs} {S : List Value} {h : zIJ} {o : zO} (hz : zcmpS  L S h = some o) : o.1 = 0 := by
  unfold zcmpS at hz
  split at hz <;> first | (cases hz; rfl; done) | (obtain ⟨-, hz⟩ := zcond hz; cases hz; rfl; done) | (cases hz; done)
theorem zi2l_tag  {L : zLs} {S : List Value} {h : zIJ} {o : zO} (hz : zi2l  L S h = some o) : o.1 = 0 := by
  unfold zi2l at hz
  split at hz <;> first | (cases hz; rfl; done) | (obtain ⟨-, hz⟩ := zcond hz; cases hz; rfl; done) | (cases hz; done)
theorem zl2i_tag  {L : zLs} {S : List Value} {h : zIJ} {o : zO} (hz : zl2i  L S h = some o) : o.1 = 0 := by
  unfold zl2i at hz
  split at hz <;> first | (cases hz; rfl; done) | (obtain ⟨-, hz⟩ := zcond hz; cases hz; rfl; done) | (cases hz; done)
theorem zrI_tag {rt : Option FieldType} {L : zLs} {S : List Value} {h : zIJ} {o : zO} (hz : zrI rt L S h = some o) : o.1 = 4 := by
  unfold zrI at hz
  split at hz <;> first | (cases hz; rfl; done) | (obtain ⟨-, hz⟩ := zcond hz; cases hz; rfl; done) | (cases hz; done)
theorem zrL_tag {rt : Option FieldType} {L : zLs} {S : List Value} {h : zIJ} {o : zO} (hz : zrL rt L S h = some o) : o.1 = 4 := by
  unfold zrL at hz
  split at hz <;> first | (cases hz; rfl; done) | (obtain ⟨-, hz⟩ := zcond hz; cases hz; rfl; done) | (cases hz; done)
theorem zrV_tag {rt : Option FieldType} {L : zLs} {S : List Value} {h : zIJ} {o : zO} (hz : zrV rt L S h = some o) : o.1 = 4 := by
  unfold zrV at hz
  split at hz <;> first | (cases hz; rfl; done) | (obtain ⟨-, hz⟩ := zcond hz; cases hz; rfl; done) | (cases hz; done)
theorem zjump_tag {hs : List Nat} {L : zLs} {S : List Value} {h : zIJ} {o : zO} (hz : zjump hs L S h = some o) : o.1 = 1 := by
  unfold zjump at hz
  split at hz <;> first | (cases hz; rfl; done) | (obtain ⟨-, hz⟩ := zcond hz; cases hz; rfl; done) | (cases hz; done)
theorem zstat_tag {hs : List Nat} {L : zLs} {S : List Value} {h : zIJ} {o : zO} (hz : zstat hs L S h = some o) : o.1 = 0 := by
  unfold zstat at hz
  split at hz <;> first | (cases hz; rfl; done) | (obtain ⟨-, hz⟩ := zcond hz; cases hz; rfl; done) | (cases hz; done)
theorem zcp_tag {hs : List Nat} {L : zLs} {S : List Value} {h : zIJ} {o : zO} (hz : zcp hs L S h = some o) : o.1 = 0 := by
  unfold zcp at hz
  split at hz
  · rename_i k w
    obtain ⟨-, hz⟩ := zcond hz
    cases hb : Nat.beq k 100 with
    | true => rw [hb] at hz; cases hz; rfl
    | false => rw [hb] at hz; cases hz; rfl
  · cases hz
theorem zm2I_tag {f : Int32 → Int32 → Int32} {L : zLs} {S : List Value} {h : zIJ} {o : zO} (hz : zm2I f L S h = some o) : o.1 = 0 := by
  unfold zm2I at hz
  split at hz <;> first | (cases hz; rfl; done) | (obtain ⟨-, hz⟩ := zcond hz; cases hz; rfl; done) | (cases hz; done)
theorem zm1I_tag {f : Int32 → Int32} {L : zLs} {S : List Value} {h : zIJ} {o : zO} (hz : zm1I f L S h = some o) : o.1 = 0 := by
  unfold zm1I at hz
  split at hz <;> first | (cases hz; rfl; done) | (obtain ⟨-, hz⟩ := zcond hz; cases hz; rfl; done) | (cases hz; done)
theorem zm2L_tag {f : Int64 → Int64 → Int64} {L : zLs} {S : List Value} {h : zIJ} {o : zO} (hz : zm2L f L S h = some o) : o.1 = 0 := by
  unfold zm2L at hz
  split at hz <;> first | (cases hz; rfl; done) | (obtain ⟨-, hz⟩ := zcond hz; cases hz; rfl; done) | (cases hz; done)
theorem zswi_tag  {L : zLs} {S : List Value} {h : zIJ} {o : zO} (hz : zswi  L S h = some o) : o.1 = 5 := by
  unfold zswi at hz
  split at hz <;> first | (cases hz; rfl; done) | (obtain ⟨-, hz⟩ := zcond hz; cases hz; rfl; done) | (cases hz; done)
theorem zbuilt_tag {q : Nat} {hs : List Nat} {L : zLs} {S : List Value} {h : zIJ} {o : zO} (hz : zbuilt q hs L S h = some o) : o.1 = 0 := by
  unfold zbuilt at hz
  cases h1 : Nat.beq q 990 with
  | true => rw [h1] at hz; exact zm2I_tag hz
  | false =>
    rw [h1] at hz
    cases h2 : Nat.beq q 991 with
    | true => rw [h2] at hz; exact zm2I_tag hz
    | false =>
      rw [h2] at hz
      cases h3 : Nat.beq q 992 with
      | true => rw [h3] at hz; exact zm1I_tag hz
      | false =>
        rw [h3] at hz
        cases h4 : Nat.beq q 993 with
        | true => rw [h4] at hz; exact zm2L_tag hz
        | false =>
          rw [h4] at hz
          cases h5 : Nat.beq q 994 with
          | true => rw [h5] at hz; exact zm2L_tag hz
          | false =>
            rw [h5] at hz
            cases h6 : Nat.beq q 999 with
            | true => rw [h6] at hz; exact zcp_tag hz
            | false => rw [h6] at hz; cases hz
def zlow (i : Instr) : Prop := match i with
  | .invokevirtual _ | .invokestatic _ | .ireturn | .lreturn | .return_ | .tableswitch _ _ _ _ => False
  | _ => True
/-- only calls call, only returns return, only switches switch -/
theorem zex_tag {pc nx : Nat} {ins : Instr} {hs : List Nat} {v : Value} {L : zLs} {S : List Value} {h : zIJ} {o : zO} (hl : zlow ins) (hz : zex n rt (pc, ins, nx, hs, v) L S h = some o) : o.1 < 3 := by
  have c0 : o.1 = 0 → o.1 < 3 := fun h => by omega
  have c1 : o.1 = 1 → o.1 < 3 := fun h => by omega
  have c2 : o.1 = 2 → o.1 < 3 := fun h => by omega
  cases ins
  all_goals try (exact nomatch (show (none : Option zO) = some o from hz))
  all_goals try (exact absurd hl id)
  case iconst => exact c0 (zcst_tag hz)
  case bipush => exact c0 (zcst_tag hz)
  case sipush => exact c0 (zcst_tag hz)
  case lconst => exact c0 (zcst_tag hz)
  case ldc => exact c0 (zcst_tag hz)
  case ldc_w => exact c0 (zcst_tag hz)
  case ldc2_w => exact c0 (zcst_tag hz)
  case iload_n => exact c0 (zldI_tag hz)
  case iload => exact c0 (zldI_tag hz)
  case lload_n => exact c0 (zldL_tag hz)
  case lload => exact c0 (zldL_tag hz)
  case aload_n => exact c0 (zldA_tag hz)
  case aload => exact c0 (zldA_tag hz)
  case istore_n => exact c0 (zstI_tag hz)
  case istore => exact c0 (zstI_tag hz)
  case lstore_n => exact c0 (zstL_tag hz)
  case lstore => exact c0 (zstL_tag hz)
  case astore_n => exact c0 (zstA_tag hz)
  case astore => exact c0 (zstA_tag hz)
  case iinc => exact c0 (zinc_tag hz)
  case lcmp => exact c0 (zcmpS_tag hz)
  case i2l => exact c0 (zi2l_tag hz)
  case l2i => exact c0 (zl2i_tag hz)
  case i2b => exact c0 (zuI_tag hz)
  case ineg => exact c0 (zuI_tag hz)
  case dup => exact c0 (zdup_tag hz)
  case dup2 => exact c0 (zdup2_tag hz)
  case getfield => exact c0 (zgf_tag hz)
  case putfield => exact c0 (zpf_tag hz)
  case getstatic => exact c0 (zstat_tag hz)
  case iaload => exact c0 (zai_tag hz)
  case laload => exact c0 (zal_tag hz)
  case aaload => exact c0 (zaa_tag hz)
  case iastore => exact c0 (zsi_tag hz)
  case lastore => exact c0 (zsl_tag hz)
  case arraylength => exact c0 (zan_tag hz)
  case iadd => exact c0 (zbI_tag hz)
  case isub => exact c0 (zbI_tag hz)
  case imul => exact c0 (zbI_tag hz)
  case iand => exact c0 (zbI_tag hz)
  case ior => exact c0 (zbI_tag hz)
  case ixor => exact c0 (zbI_tag hz)
  case ishl => exact c0 (zbI_tag hz)
  case ishr => exact c0 (zbI_tag hz)
  case iushr => exact c0 (zbI_tag hz)
  case ladd => exact c0 (zbL_tag hz)
  case lsub => exact c0 (zbL_tag hz)
  case lmul => exact c0 (zbL_tag hz)
  case land => exact c0 (zbL_tag hz)
  case lor => exact c0 (zbL_tag hz)
  case lxor => exact c0 (zbL_tag hz)
  case idiv => exact c0 (zdI_tag hz)
  case irem => exact c0 (zdI_tag hz)
  case ldiv => exact c0 (zdL_tag hz)
  case lrem => exact c0 (zdL_tag hz)
  case lshl => exact c0 (zsh_tag hz)
  case lshr => exact c0 (zsh_tag hz)
  case lushr => exact c0 (zsh_tag hz)
  case goto => exact c1 (zjump_tag hz)
  case ifCond cd off => cases cd <;> exact c2 (zif1_tag hz)
  case if_icmp cd off => cases cd <;> exact c2 (zif2_tag hz)
theorem zinv_t {virt : Bool} {hs : List Nat} {L L' : zLs} {S S' : List Value} {h h' : zIJ} {b : Bool} {t : Nat} {as : List Value} (hz : zinv virt hs L S h = some (3, b, t, as, L', S', h')) : ∃ w, hs = t :: w := by
  unfold zinv at hz
  split at hz
  · rename_i w0 w1 w2 w3 w4 w5
    split at hz
    · obtain ⟨-, hz⟩ := zcond hz
      cases virt with
      | true =>
        dsimp only [cond_true] at hz
        split at hz
        · cases hz; exact ⟨_, rfl⟩
        · cases hz
      | false => cases hz; exact ⟨_, rfl⟩
    · cases hz
  · cases hz
theorem zcall_key {G : Prop} {pc nx : Nat} {ins : Instr} {hs : List Nat} {v : Value} {L L' : zLs} {S S' : List Value} {h h' : zIJ} {b : Bool} {t : Nat} {as : List Value} (hoq : zokE own cc (pc, ins, nx, hs, v) = true) (ho : zex n rt (pc, ins, nx, hs, v) L S h = some (3, b, t, as, L', S', h'))
    (key : ∀ (virt : Bool) (i : Nat), ins = (if virt then Instr.invokevirtual i else Instr.invokestatic i) → zinv virt hs L S h = some (3, b, t, as, L', S', h') → t < zNm → (∃ w1 w2 rk lv w5 w6 w7, hs = [w1, w2, rk, lv, w5, w6, w7] ∧ w1 = t ∧ rk = zrk (zMs t).2.1 ∧ lv = (zMs t).2.2.1) → G) : G := by
  by_cases hl : zlow ins
  · have := zex_tag hl ho
    exact absurd this (Nat.not_lt.mpr (Nat.le_refl 3))
  · unfold zokE at hoq
    rw [Bool.and_eq_true] at hoq
    have hi : zokI own pc ins nx hs v = true := hoq.2
    clear hoq
    cases ins
    all_goals try (exact absurd trivial hl)
    case invokevirtual i =>
      replace hi := (Bool.and_eq_true_iff.mp hi).2
      have hz : zinv true hs L S h = some (3, b, t, as, L', S', h') := ho
      obtain ⟨w, hw⟩ := zinv_t hz
      unfold zokV at hi
      split at hi
      · cases hw
        simp only [Bool.and_eq_true] at hi
        exact key true i rfl hz (Nat.blt_eq.mp hi.1) ⟨_, _, _, _, _, _, _, rfl, rfl, Nat.eq_of_beq_eq_true hi.2.2.1, Nat.eq_of_beq_eq_true hi.2.2.2.1⟩
      · cases hi
    case invokestatic i =>
      replace hi := (Bool.and_eq_true_iff.mp hi).2
      have hz : zisv hs L S h = some (3, b, t, as, L', S', h') := ho
      clear ho
      unfold zisv at hz
      split at hz
      · rename_i q w
        cases hb : Nat.ble 990 q with
        | true =>
          rw [hb] at hz
          have := zbuilt_tag (show zbuilt q (q :: w) L S h = some (3, b, t, as, L', S', h') from hz)
          cases this
        | false =>
          rw [hb] at hz
          replace hz : zinv false (q :: w) L S h = some (3, b, t, as, L', S', h') := hz
          obtain ⟨w', hw⟩ := zinv_t hz
          cases hw
          unfold zokU at hi
          split at hi
          · rename_i e0
            cases e0
            simp only [Bool.and_eq_true] at hi
            exact key false i rfl hz (Nat.blt_eq.mp hi.1) ⟨_, _, _, _, _, _, _, rfl, rfl, Nat.eq_of_beq_eq_true hi.2.2.1, Nat.eq_of_beq_eq_true hi.2.2.2.1⟩
          · rename_i e0
            cases e0
            simp only [Bool.and_eq_true] at hi
            cases Nat.eq_of_beq_eq_true hi.1
            cases hb
          · rename_i e0
            cases e0
            simp only [Bool.or_eq_true, Bool.and_eq_true] at hi
            rcases hi with hi | hi | hi | hi | hi <;> (cases Nat.eq_of_beq_eq_true hi.1; cases hb)
          · cases hi
      · cases hz
    case ireturn => exact absurd (show (3 : Nat) = 4 from zrI_tag ho) (by decide)
    case lreturn => exact absurd (show (3 : Nat) = 4 from zrL_tag ho) (by decide)
    case return_ => exact absurd (show (3 : Nat) = 4 from zrV_tag ho) (by decide)
    case tableswitch => exact absurd (show (3 : Nat) = 5 from zswi_tag ho) (by decide)
theorem zsw_key {pc nx q : Nat} {ins : Instr} {hs : List Nat} {v : Value} {L L' : zLs} {S S' : List Value} {h h' : zIJ} {b : Bool} {t : Nat} {as : List Value} {f : Nat → Option zRes} {x : zRes} (X : zX p R kc ks s m args meth c cc n own rt E) (hoq : zokE own cc (pc, ins, nx, hs, v) = true) (ho : zex n rt (pc, ins, nx, hs, v) L S h = some (q + 5, b, t, as, L', S', h'))
    (hf : ∀ t2, f t2 = some x → zN p l e R s m args below meth c Q E kc ks n t2 L' S' h') (hx : zdsw as ins hs f = some x) : zN p l e R s m args below meth c Q E kc ks n pc L S h := by
  unfold zdsw at hx
  split at hx
  · rename_i x0 d0 lo hi offs d ts
    have hz : zswi L S h = some (q + 5, b, t, [.int x0], L', S', h') := ho
    clear ho
    unfold zswi at hz
    split at hz
    · cases hz
      unfold zokE at hoq
      rw [Bool.and_eq_true] at hoq
      have hd := of_decide_eq_true hoq.1
      have hw : zokW pc d0 lo hi offs (d :: ts) = true := hoq.2
      unfold zokW at hw
      simp only [Bool.and_eq_true] at hw
      have hsp := zsw_spec ts lo hx
      refine zs_switch X hd (of_decide_eq_true hw.1) (of_decide_eq_true hw.2.1) (of_decide_eq_true hw.2.2) (fun j t2 h1 h2 => ?_) (fun h1 => ?_)
      · rcases hsp with ⟨j', t', e1, e2, e3⟩ | ⟨e1, -⟩
        · have : j' = j := by omega
          subst this
          rw [h1] at e1
          cases e1
          exact hf _ e3
        · have := (List.getElem?_eq_some_iff.mp h1).1
          omega
      · rcases hsp with ⟨j', t', e1, e2, -⟩ | ⟨-, e3⟩
        · have := (List.getElem?_eq_some_iff.mp e1).1
          omega
        · exact hf _ e3
    · cases hz
  · cases hx
theorem zgo_snd {cu : zCu} {K : Nat → List Value → zIJ → Option zRes} {k : Nat → zLs → List Value → zIJ → Option zRes} {x : zRes} {t : Nat} {L : zLs} {S : List Value} {h : zIJ}
    (hK : ∀ t lv vs L2, zcut t cu = some lv → K t vs h = some x → zzip lv vs = some L2 → zN p l e R s m args below meth c Q E kc ks n t L2 [] h) (hKz : ∀ t lv vs, zcut t cu = some lv → K t vs h = some x → ∃ L2, zzip lv vs = some L2)
    (hk : k t L S h = some x → zN p l e R s m args below meth c Q E kc ks n t L S h) (hx : zgo cu K k t L S h = some x) : zN p l e R s m args below meth c Q E kc ks n t L S h := by
  unfold zgo at hx
  cases hc : zcut t cu with
  | none => rw [hc] at hx; exact hk hx
  | some lv =>
    rw [hc] at hx
    cases S with
    | cons a r => cases hx
    | nil =>
      cases hp : zpick L lv with
      | none => simp only [hp] at hx; cases hx
      | some vs =>
        simp only [hp] at hx
        obtain ⟨L2, h2⟩ := hKz t lv vs hc hx
        exact zN_sub (zpick_zip lv vs L2 hp h2) (hK t lv vs L2 hc hx h2)
theorem zblk_snd {lev : Nat} {cu : zCu} {K C : Nat → List Value → zIJ → Option zRes} {x : zRes} (X : zX p R kc ks s m args meth c cc n own rt E) (hRf : lev + 1 ≤ R.frames) (hRl : 64 * (lev + 1) ≤ R.locals) (hC : zCalls l E lev C) (hall : ∀ t, t < zNm → zokM t = true)
    (hK : ∀ t lv vs L2 h, zcut t cu = some lv → K t vs h = some x → zzip lv vs = some L2 → zN p l e R s m args below meth c Q E kc ks n t L2 [] h) (hKz : ∀ t lv vs h, zcut t cu = some lv → K t vs h = some x → ∃ L2, zzip lv vs = some L2)
    (hret : ∀ (ins : Instr) (pc nx : Nat) (hs : List Nat) (v : Value) (L : zLs) (S : List Value) (h : zIJ) (b : Bool) (t : Nat) (as S' : List Value) (L' : zLs) (h' : zIJ), zokE own cc (pc, ins, nx, hs, v) = true → zex n rt (pc, ins, nx, hs, v) L S h = some (4, b, t, as, L', S', h') → b = true → x = (as.head?, h') → zN p l e R s m args below meth c Q E kc ks n pc L S h) :
    ∀ (co : List zEn), (∀ q ∈ co, zokE own cc q = true) → ∀ (t : Nat) (L : zLs) (S : List Value) (h : zIJ), zblk n rt lev cu K C co t L S h = some x → zN p l e R s m args below meth c Q E kc ks n t L S h
  | [], _, _, _, _, _, hx => by cases hx
  | q :: r, hq, t, L, S, h, hx => by
    have ih := zblk_snd X hRf hRl hC hall hK hKz hret r (fun q2 h2 => hq q2 (List.mem_cons_of_mem _ h2))
    unfold zblk at hx
    cases hb : Nat.beq q.1 t with
    | false => rw [hb] at hx; exact ih t L S h hx
    | true =>
      rw [hb] at hx
      have ht : q.1 = t := Nat.eq_of_beq_eq_true hb
      have hoq := hq q List.mem_cons_self
      obtain ⟨pc, ins, nx, hs, v⟩ := q
      dsimp only at ht
      subst ht
      have hx2 : zdo n rt lev cu K C (pc, ins, nx, hs, v) (fun t2 L2 S2 h2 => zblk n rt lev cu K C r t2 L2 S2 h2) L S h = some x := hx
      clear hx
      unfold zdo at hx2
      cases ho : zex n rt (pc, ins, nx, hs, v) L S h with
      | none => rw [ho] at hx2; cases hx2
      | some o =>
        rw [ho] at hx2
        have hon := zs_all (p := p) (l := l) (e := e) (R := R) (below := below) (Q := Q) X hoq ho
        obtain ⟨tag, b, t, as, L', S', h'⟩ := o
        have gon : ∀ (t2 : Nat) (L2 : zLs) (S2 : List Value) (h2 : zIJ), zgo cu K (fun t2 L2 S2 h2 => zblk n rt lev cu K C r t2 L2 S2 h2) t2 L2 S2 h2 = some x → zN p l e R s m args below meth c Q E kc ks n t2 L2 S2 h2 :=
          fun t2 L2 S2 h2 hg => zgo_snd (fun t lv vs L2 => hK t lv vs L2 h2) (fun t lv vs => hKz t lv vs h2) (ih t2 L2 S2 h2) hg
        match tag, ho, hx2, hon with
        | 0, ho, hx2, hon =>
          obtain ⟨hb, hx2⟩ := zcond hx2
          exact hon hb (gon _ _ _ _ hx2)
        | 1, ho, hx2, hon => exact hon (gon _ _ _ _ hx2)
        | 2, ho, hx2, hon =>
          refine hon (fun hb => ?_) (fun hb => ?_)
          · subst hb
            exact gon _ _ _ _ hx2
          · subst hb
            exact gon _ _ _ _ hx2
        | 3, ho, hx2, _ =>
          have key : ∀ (virt : Bool) (i : Nat), ins = (if virt then Instr.invokevirtual i else Instr.invokestatic i) → zinv virt hs L S h = some (3, b, t, as, L', S', h') → t < zNm → (∃ w1 w2 rk lv w5 w6 w7, hs = [w1, w2, rk, lv, w5, w6, w7] ∧ w1 = t ∧ rk = zrk (zMs t).2.1 ∧ lv = (zMs t).2.2.1) → zN p l e R s m args below meth c Q E kc ks n pc L S h := by
            intro virt i hins hzi htl hhs
            subst hins
            obtain ⟨w1, w2, rk, lv, w5, w6, w7, rfl, rfl, rfl, rfl⟩ := hhs
            dsimp only at hx2
            obtain ⟨hb, hx2⟩ := zcond hx2
            obtain ⟨hlv, hx2⟩ := zcond hx2
            have hlv := Nat.blt_eq.mp hlv
            cases hr : C w1 as h' with
            | none =>
              rw [hr] at hx2
              generalize zrk (zMs w1).2.1 = rk at hx2
              match rk, hx2 with
              | 0, hx2 => cases hx2
              | 1, hx2 => cases hx2
              | _ + 2, hx2 => cases hx2
            | some y =>
              obtain ⟨rv, h2⟩ := y
              have hM := hC _ _ _ _ hr htl hlv
              refine zs_call X hoq hzi (fun _ => htl) hb (hall _ htl) hM hlv hRf hRl ?_
              rw [hr] at hx2
              generalize zrk (zMs w1).2.1 = rk at hx2
              match rk, rv, hx2 with
              | 0, none, hx2 => exact gon _ _ _ _ hx2
              | 0, some z, hx2 => cases hx2
              | 1, none, hx2 => cases hx2
              | 1, some (.int z), hx2 => exact gon _ _ (.int z :: S') _ hx2
              | 1, some (.long z), hx2 => cases hx2
              | 1, some (.float z), hx2 => cases hx2
              | 1, some (.double z), hx2 => cases hx2
              | 1, some .null, hx2 => cases hx2
              | 1, some (.ref z), hx2 => cases hx2
              | 1, some (.retAddr z), hx2 => cases hx2
              | _ + 2, none, hx2 => cases hx2
              | _ + 2, some (.long z), hx2 => exact gon _ _ (.long z :: S') _ hx2
              | _ + 2, some (.int z), hx2 => cases hx2
              | _ + 2, some (.float z), hx2 => cases hx2
              | _ + 2, some (.double z), hx2 => cases hx2
              | _ + 2, some .null, hx2 => cases hx2
              | _ + 2, some (.ref z), hx2 => cases hx2
              | _ + 2, some (.retAddr z), hx2 => cases hx2
          exact zcall_key hoq ho key
        | 4, ho, hx2, _ =>
          obtain ⟨hb, hx2⟩ := zcond hx2
          refine hret ins pc nx hs v L S h b t as S' L' h' hoq ho hb ?_
          cases as with
          | nil => exact (Option.some.inj hx2).symm
          | cons a r => exact (Option.some.inj hx2).symm
        | q + 5, ho, hx2, _ =>
          have hx3 : zdsw as ins hs (fun t2 => zgo cu K (fun t2 L2 S2 h2 => zblk n rt lev cu K C r t2 L2 S2 h2) t2 L' S' h') = some x := hx2
          clear hx2
          exact zsw_key X hoq ho (fun t2 => gon t2 L' S' h') hx3
/-- where a method begins -/
theorem zlen_sl : ∀ (vs : List Value), (lg_sl (vs.map (zv E))).length = zcat vs
  | [] => rfl
  | v :: r => by
    have ih := zlen_sl r
    unfold lg_sl at ih ⊢
    rw [List.map_cons, List.flatMap_cons, List.length_append, ih, zv_cat]
    show _ = v.category + zcat r
    rcases lv_cat v with h | h <;> rw [h] <;> rfl
theorem zl_args (i : Nat) (vs : List Value) : lv_args i (vs.map (zv E)) = zl E (lv_args i vs) := by
  induction vs generalizing i with
  | nil => rfl
  | cons v r ih =>
    show (i, zv E v) :: lv_args (if (zv E v).category = 2 then i + 2 else i + 1) (r.map (zv E)) = (i, zv E v) :: zl E (lv_args (if v.category = 2 then i + 2 else i + 1) r)
    rw [zv_cat, ih]
theorem zrun_z {F mi q : Nat} {lv : List Nat} {vs : List Value} {h : zIJ} {x : zRes} (h1 : zcut (q + 1) (zMs mi).2.2.2.1 = some lv) (hx : zrun zMs F mi (q + 1) vs h = some x) : ∃ L2, zzip lv vs = some L2 := by
  cases F with
  | zero => cases hx
  | succ F =>
    have hx2 : zat (zMs mi) (zlev mi (zMs mi).2.2.1 vs) (fun pc2 vs2 h2 => zrun zMs F mi pc2 vs2 h2) (fun m2 as h2 => zrun zMs F m2 0 as h2) (q + 1) vs h = some x := hx
    unfold zat at hx2
    simp only [h1] at hx2
    cases h2 : zzip lv vs with
    | none => rw [h2] at hx2; cases hx2
    | some L => exact ⟨L, rfl⟩
theorem zrun_body {mi lev : Nat} {x : zRes} (hc0 : zcut 0 (zMs mi).2.2.2.1 = none) (X : zX p R kc ks s m args meth c cc (zMs mi).1 own (zMs mi).2.1 E) (hRf : lev + 1 ≤ R.frames) (hRl : 64 * (lev + 1) ≤ R.locals) (hall : ∀ t, t < zNm → zokM t = true) (hco : ∀ q ∈ (zMs mi).2.2.2.2, zokE own cc q = true) (hlev : ∀ vs, (zMs mi).2.2.2.1 ≠ [] → zlev mi (zMs mi).2.2.1 vs = lev)
    (hC : ∀ F, zCalls l E lev (fun m2 as h2 => zrun zMs F m2 0 as h2))
    (hret : ∀ (ins : Instr) (pc nx : Nat) (hs : List Nat) (v : Value) (L : zLs) (S : List Value) (h : zIJ) (b : Bool) (t : Nat) (as S' : List Value) (L' : zLs) (h' : zIJ), zokE own cc (pc, ins, nx, hs, v) = true → zex (zMs mi).1 (zMs mi).2.1 (pc, ins, nx, hs, v) L S h = some (4, b, t, as, L', S', h') → b = true → x = (as.head?, h') → zN p l e R s m args below meth c Q E kc ks (zMs mi).1 pc L S h) :
    ∀ (F q : Nat) (lv : List Nat) (vs : List Value) (L : zLs) (h : zIJ), zcut (q + 1) (zMs mi).2.2.2.1 = some lv → zzip lv vs = some L → zrun zMs F mi (q + 1) vs h = some x → zN p l e R s m args below meth c Q E kc ks (zMs mi).1 (q + 1) L [] h
  | 0, _, _, _, _, _, _, _, hx => by cases hx
  | F + 1, q, lv, vs, L, h, h1, h2, hx => by
    have ih := zrun_body hc0 X hRf hRl hall hco hlev hC hret F
    have hne : (zMs mi).2.2.2.1 ≠ [] := fun e => by rw [e] at h1; cases h1
    have hx2 : zat (zMs mi) (zlev mi (zMs mi).2.2.1 vs) (fun pc2 vs2 h2 => zrun zMs F mi pc2 vs2 h2) (fun m2 as h2 => zrun zMs F m2 0 as h2) (q + 1) vs h = some x := hx
    clear hx
    unfold zat at hx2
    simp only [h1, h2] at hx2
    rw [hlev vs hne] at hx2
    refine zblk_snd X hRf hRl (hC F) hall (fun t lv vs L2 h a b c => ?_) (fun t lv vs h a b => ?_) hret _ hco _ _ _ _ hx2
    · cases t with
      | zero => rw [hc0] at a; cases a
      | succ q' => exact ih q' lv vs L2 h a c b
    · cases t with
      | zero => rw [hc0] at a; cases a
      | succ q' => exact zrun_z a b
/-- the entry of a method: all of its run -/
theorem zrun_entry {mi lev : Nat} {x : zRes} (hc0 : zcut 0 (zMs mi).2.2.2.1 = none) (X : zX p R kc ks s m args meth c cc (zMs mi).1 own (zMs mi).2.1 E) (hRf : lev + 1 ≤ R.frames) (hRl : 64 * (lev + 1) ≤ R.locals) (hall : ∀ t, t < zNm → zokM t = true) (hco : ∀ q ∈ (zMs mi).2.2.2.2, zokE own cc q = true) (hlev : ∀ vs, (zMs mi).2.2.2.1 ≠ [] → zlev mi (zMs mi).2.2.1 vs = lev)
    (hC : ∀ F, zCalls l E lev (fun m2 as h2 => zrun zMs F m2 0 as h2))
    (hret : ∀ (ins : Instr) (pc nx : Nat) (hs : List Nat) (v : Value) (L : zLs) (S : List Value) (h : zIJ) (b : Bool) (t : Nat) (as S' : List Value) (L' : zLs) (h' : zIJ), zokE own cc (pc, ins, nx, hs, v) = true → zex (zMs mi).1 (zMs mi).2.1 (pc, ins, nx, hs, v) L S h = some (4, b, t, as, L', S', h') → b = true → x = (as.head?, h') → zN p l e R s m args below meth c Q E kc ks (zMs mi).1 pc L S h)
    {F : Nat} {vs : List Value} {h : zIJ} (hv : zlev mi (zMs mi).2.2.1 vs = lev) (hx : zrun zMs F mi 0 vs h = some x) : zcat vs ≤ (zMs mi).1 ∧ zN p l e R s m args below meth c Q E kc ks (zMs mi).1 0 (lv_args 0 vs) [] h := by
  cases F with
  | zero => cases hx
  | succ F =>
    have ih := zrun_body (l := l) (e := e) (below := below) (Q := Q) hc0 X hRf hRl hall hco hlev hC hret F
    obtain ⟨hb, hx2⟩ := zcond (show cond (Nat.ble (zcat vs) (zMs mi).1) (zblk (zMs mi).1 (zMs mi).2.1 (zlev mi (zMs mi).2.2.1 vs) (zMs mi).2.2.2.1 (fun pc2 vs2 h2 => zrun zMs F mi pc2 vs2 h2) (fun m2 as h2 => zrun zMs F m2 0 as h2) (zMs mi).2.2.2.2 0 (lv_args 0 vs) [] h) none = some x from hx)
    refine ⟨Nat.le_of_ble_eq_true hb, ?_⟩
    rw [hv] at hx2
    refine zblk_snd X hRf hRl (hC F) hall (fun t lv vs L2 h a b c => ?_) (fun t lv vs h a b => ?_) hret _ hco _ _ _ _ hx2
    · cases t with
      | zero => rw [hc0] at a; cases a
      | succ q' => exact ih q' lv vs L2 h a c b
    · cases t with
      | zero => rw [hc0] at a; cases a
      | succ q' => exact zrun_z a b
theorem zlev_c {mi lv : Nat} (h : mi ≠ zLI) (vs : List Value) : zlev mi lv vs = lv := by
  unfold zlev
  rw [zbeqf h]
  rfl
/-- EVERY METHOD: what a run of the abstract machine answers is what the machine answers -/
theorem zsound (l : Launch) (E : zE) (hall : ∀ t, t < zNm → zokM t = true) : ∀ (N t : Nat) (as : List Value) (h : zIJ) (x : zRes) (F : Nat), zlev t (zMs t).2.2.1 as < N → t < zNm → zrun zMs F t 0 as h = some x → zMet l E (zI t).1 (zI t).2.1 (zMs t).1 (zMs t).2.1 (zlev t (zMs t).2.2.1 as) as h x.1 x.2
  | 0, _, _, _, _, _, hN, _, _ => absurd hN (Nat.not_lt_zero _)
  | N + 1, t, as, h, x, F, hN, ht, hx => by
    have ih := zsound l E hall N
    obtain ⟨w1, w2, w3, w4, w5, w6, w7, w8, w9, w10⟩ := zokM_spec (hall t ht)
    refine Met.ofW (cc := (zI t).2.1) (maxL := (zMs t).1) (ret := (zMs t).2.1) w6 rfl ?_
    intro p e s m args below meth c s₁ B hml hv
    obtain ⟨rfl, hR, hF⟩ := hv
    have hts0 := atoms_spec (ws := Cond.code (zI t).1 (zI t).2.1 (zMs t).1 (zMs t).2.1 :: zTG) B.pre
    have X : zX p (zRoom (zlev t (zMs t).2.2.1 as)) 0 0 s m (as.map (zv E)).toArray meth c (zI t).2.1 (zMs t).1 (zI t).1.cls (zMs t).2.1 E := ⟨B.exec, B.bytes, hml, findClass_of_methodNamed B.named, fun w hw => hts0 w (List.mem_cons_of_mem _ hw), hF, B.notSynchronized, B.returns, by show 1 ≤ _ + 1; omega, by show 64 ≤ 64 * (_ + 1); omega, Nat.zero_le _, Nat.zero_le _⟩
    have hret : ∀ (ins : Instr) (pc nx : Nat) (hs : List Nat) (v : Value) (L : zLs) (S : List Value) (h : zIJ) (b : Bool) (t2 : Nat) (as2 S' : List Value) (L' : zLs) (h' : zIJ), zokE (zI t).1.cls (zI t).2.1 (pc, ins, nx, hs, v) = true → zex (zMs t).1 (zMs t).2.1 (pc, ins, nx, hs, v) L S h = some (4, b, t2, as2, L', S', h') → b = true → x = (as2.head?, h') → zN p l e (zRoom (zlev t (zMs t).2.2.1 as)) s m (as.map (zv E)).toArray below meth c (MQ below (zQ E x.1 x.2) (as.map (zv E)).toArray s 0 0 (zFree E)) E 0 0 (zMs t).1 pc L S h := by
      intro ins pc nx hs v L S h b t2 as2 S' L' h' hok hz hb hxe
      rw [hxe]
      have hlow : ¬ zlow ins := fun hl => by
        have := zex_tag hl hz
        exact absurd this (by show ¬ 4 < 3; decide)
      unfold zokE at hok
      rw [Bool.and_eq_true] at hok
      have hd0 : decode (zI t).2.1 pc = .ok (ins, nx - pc) := of_decide_eq_true hok.1
      have hi : zokI (zI t).1.cls pc ins nx hs v = true := hok.2
      clear hok
      cases ins
      all_goals try (exact absurd trivial hlow)
      case invokevirtual => exact absurd (show (4 : Nat) = 3 from zinv_tag hz) (by decide)
      case invokestatic =>
        have hz2 : zisv hs L S h = some (4, b, t2, as2, L', S', h') := hz
        unfold zisv at hz2
        split at hz2
        · rename_i q w
          cases hb9 : Nat.ble 990 q with
          | true =>
            rw [hb9] at hz2
            exact absurd (show (4 : Nat) = 0 from zbuilt_tag hz2) (by decide)
          | false =>
            rw [hb9] at hz2
            exact absurd (show (4 : Nat) = 3 from zinv_tag hz2) (by decide)
        · cases hz2
      case tableswitch => exact absurd (show (4 : Nat) = 5 from zswi_tag hz) (by decide)
      case ireturn =>
        have hnx : nx = pc + 1 := Nat.eq_of_beq_eq_true hi
        rw [hnx, Nat.add_sub_cancel_left] at hd0
        exact zs_ret X hd0 (Or.inl rfl) hz hb
      case lreturn =>
        have hnx : nx = pc + 1 := Nat.eq_of_beq_eq_true hi
        rw [hnx, Nat.add_sub_cancel_left] at hd0
        exact zs_ret X hd0 (Or.inr (Or.inl rfl)) hz hb
      case return_ =>
        have hnx : nx = pc + 1 := Nat.eq_of_beq_eq_true hi
        rw [hnx, Nat.add_sub_cancel_left] at hd0
        exact zs_ret X hd0 (Or.inr (Or.inr rfl)) hz hb
    obtain ⟨hcat, hn⟩ := zrun_entry (l := l) (e := e) (below := below) (Q := MQ below (zQ E x.1 x.2) (as.map (zv E)).toArray s 0 0 (zFree E)) (x := x) w10 X (Nat.le_refl _) (Nat.le_refl _) hall w8 (fun vs hne => by
        have hne2 : t ≠ zLI := fun e => hne (w9 e)
        rw [zlev_c hne2, zlev_c hne2]) (fun G m2 as2 h2 y hy ht2 hl2 => ih m2 as2 h2 y G (by omega) ht2 hy) hret rfl hx
    have hl := lv_entry (as.map (zv E)) (n := (zMs t).1) (by rw [zlen_sl]; exact hcat)
    rw [lg_entry_eq]
    refine hn s.heap [] _ hR (fun q hq => by cases hq) ?_
    rw [← zl_args]
    exact hl
end ZS6
