/-! Fields, statics, copies, returns. -/
section ZS3
variable {p : Program} {l : Launch} {e : Env} {R : Room} {s : State} {m : MethodId} {args : Array Value} {below : List Frame} {meth : Method} {c : Code} {Q : State → Prop} {E : zE} {n : Nat} {cc : ByteArray} {own : String} {rt : Option FieldType} {kc ks : Nat}
theorem zcls_of {ci N : Nat} {C : String} {T : u_T} (hv : vwCl[ci]? = some (C, T, N)) (h1 : (u_ws C T N).all (fun w => decide (w ∈ lw_tbl) && goodWord w) = true) (h2 : ∀ k, k < N → parseFieldDescriptor (T k).2.2.1 = some (zty ci k)) (h3 : ∀ a, a < N → ∀ b, b < N → a ≠ b → (T a).2.1 ≠ (T b).2.1) : zcls ci := by
  intro C' T' N' h
  rw [hv] at h
  cases h
  refine ⟨fun w hw => ?_, h2, h3⟩
  have := List.all_eq_true.mp h1 w hw
  simp only [Bool.and_eq_true, decide_eq_true_eq] at this
  exact zTG_in this.1 this.2
theorem zcls_all : ∀ ci, ci < 13 → zcls ci := by
  intro ci h
  rcases (show ci = 0 ∨ ci = 1 ∨ ci = 2 ∨ ci = 3 ∨ ci = 4 ∨ ci = 5 ∨ ci = 6 ∨ ci = 7 ∨ ci = 8 ∨ ci = 9 ∨ ci = 10 ∨ ci = 11 ∨ ci = 12 by omega) with rfl | rfl | rfl | rfl | rfl | rfl | rfl | rfl | rfl | rfl | rfl | rfl | rfl
  · exact zcls_of rfl (by decide +kernel) tyX0_ok nmX0
  · exact zcls_of rfl (by decide +kernel) tyX1_ok nmX1
  · exact zcls_of rfl (by decide +kernel) tyX2_ok nmX2
  · exact zcls_of rfl (by decide +kernel) tyX3_ok nmX3
  · exact zcls_of rfl (by decide +kernel) tyX4_ok nmX4
  · exact zcls_of rfl (by decide +kernel) tyX5_ok nmX5
  · exact zcls_of rfl (by decide +kernel) tyX6_ok nmX6
  · exact zcls_of rfl (by decide +kernel) tyX7_ok nmX7
  · exact zcls_of rfl (by decide +kernel) tyX8_ok nmX8
  · exact zcls_of rfl (by decide +kernel) tyX9_ok nmX9
  · exact zcls_of rfl (by decide +kernel) tyX10_ok nmX10
  · exact zcls_of rfl (by decide +kernel) tyX11_ok nmX11
  · exact zcls_of rfl (by decide +kernel) tyX12_ok nmX12
theorem vwCl_lt {ci : Nat} {r : vw_C} (h : vwCl[ci]? = some r) : ci < 13 := (List.getElem?_eq_some_iff.mp h).1
theorem zs_getfield {i : Nat} {pc nx : Nat} {ci j : Nat} {hs : List Nat} {v : Value} {L : zLs} {S : List Value} {h : zIJ} {o : zO} {C : String} {T : u_T} {N : Nat} (X : zX p R kc ks s m args meth c cc n own rt E) (hd : decode cc pc = .ok (.getfield i, 3)) (hx : nx = pc + 3) (hc : vwCl[ci]? = some (C, T, N)) (hj : j < N) (hTC : (T j).1 = C) (hw : Cond.fieldLink own i C (T j).2.1 (T j).2.2.1 ∈ zTG) (hz : zex n rt (pc, .getfield i, nx, ci :: j :: hs, v) L S h = some o) : zOn p l e R s m args below meth c Q E kc ks n pc nx L S h o := by
  match S, hz with
  | .ref a :: r, hz =>
    cases hz
    subst hx
    intro hb k H locs ls hR hf hl
    obtain ⟨hx, hcc, hml, hown, hts, hF, -⟩ := X
    have hci := vwCl_lt hc
    obtain ⟨hin, -, -⟩ := zcls_all ci hci C T N hc
    obtain ⟨h3, r', r1, r2, cell, q1, q2, q3, q4⟩ := zc_obj hR (Nat.eq_of_beq_eq_true hb) (by omega)
    cases hc.symm.trans r1
    obtain ⟨hS, hfc, kC, hkC, hkind⟩ := hF.1.1 ci _ hc
    obtain ⟨cf, kf, fi, f, hi, hsl⟩ := hS j hj
    have hi' := hi
    dsimp only at hi'
    rw [hTC] at hi'
    have r2 : N = (zC a).2 := r2
    exact W.getf hx hcc hown (hts _ hw) hi' (u_facts hfc hkC (u_lays hts hin hj) hi).1 q1 (by rw [q3]; exact fun h => by cases h) (by rw [hsl]; exact q4 j (by rw [← r2]; exact hj)) rfl rfl hd (k H locs ls hR hf hl)
theorem zfv_upI {h : zIJ} {a j b : Nat} {x : Int32} {ty : FieldType} (hb : b ≠ j) : zfv (zsI h a j x) a b ty = zfv h a b ty := by
  unfold zfv zsI
  dsimp only
  rw [zup_self, if_neg hb]
theorem zfv_upL {h : zIJ} {a j b : Nat} {x : Int64} {ty : FieldType} (hb : b ≠ j) : zfv (zsL h a j x) a b ty = zfv h a b ty := by
  unfold zfv zsL
  dsimp only
  rw [zup_self, if_neg hb]
/-- a field is written: the machine's part -/
theorem zputW {i : Nat} {pc : Nat} {ci j : Nat} {L : zLs} {r : List Value} {h h' : zIJ} {C : String} {T : u_T} {N a : Nat} {w : Value} (X : zX p R kc ks s m args meth c cc n own rt E) (hd : decode cc pc = .ok (.putfield i, 3)) (hc : vwCl[ci]? = some (C, T, N)) (hj : j < N) (hTC : (T j).1 = C) (hfin : (T j).2.2.2 = false) (hw : Cond.fieldLink own i C (T j).2.1 (T j).2.2.1 ∈ zTG)
    (hk : (zC a).1 = ci) (hn : narrow (zty ci j) w = w) (hfit : fits (zty ci j) w = true) (hI : ∀ k, k ≠ a → h'.1 k = h.1 k) (hJ : ∀ k, k ≠ a → h'.2 k = h.2 k) (hv : ∀ b, zv E (zfv h' a b (zty ci b)) = if b = j then w else zv E (zfv h a b (zty ci b)))
    (k : zN p l e R s m args below meth c Q E kc ks n (pc + 3) L r h') {H : Heap} {locs : List Loc} {ls : Array Slot} (hR : zR E s h H) (hf : ∀ q ∈ locs, E.2.2.2.size ≤ q.base) (hl : lv_has ls n (zl E L)) : W p l e R s m args below meth c H locs kc ks Q (F0 m pc ls (w :: .ref (zad E a) :: r.map (zv E))) := by
  obtain ⟨hx, hcc, hml, hown, hts, hF, -⟩ := X
  have hci := vwCl_lt hc
  obtain ⟨hin, hty, hnm⟩ := zcls_all ci hci C T N hc
  obtain ⟨h3, r', r1, r2, cell, q1, q2, q3, q4⟩ := zc_obj hR hk (by omega)
  cases hc.symm.trans r1
  have r2 : N = (zC a).2 := r2
  have hap := va_apart (own := own) hts hin (zty ci) hty hnm hF.1 hc
  obtain ⟨hS, hfc, kC, hkC, hkind⟩ := hF.1.1 ci _ hc
  obtain ⟨cf, kf, fi, f, hi, hsl⟩ := hS j hj
  have hlay := hts _ (hin _ (u_in_lay hj))
  unfold u_lay at hlay
  rw [if_neg (by rw [hfin]; decide)] at hlay
  have hst := (u_facts hfc hkC (u_lays hts hin hj) hi).1
  have h6 := u_store hfc hkC hkind hlay hi (hty j hj) hn hfit
  have hi' := hi
  dsimp only at hi'
  rw [hTC] at hi'
  refine W.putK hx hcc (f := f) ⟨hown, hts _ hw, ⟨_, _, _, hi'⟩, hst⟩ (by rw [q2]; exact h6) q1 q3 (by rw [hsl]; exact k2_hasslot (q4 j (by rw [← r2]; exact hj))) rfl rfl hd fun H' e1 e2 e3 => ?_
  rw [hsl] at e1
  rw [← r2] at q4
  refine k H' _ ls (zR_set hR h3 hI hJ e2 e3 (fun _ => ?_)) (fun q hq => ?_) hl
  · unfold zcell
    rw [hk, if_pos (by omega), ← r2]
    exact ⟨_, hc, rfl, t_OB.to (V := updV (fun j => zv E (zfv h a j (zty ci j))) j w) ⟨_, e1, q2, q3, t_set q4 hap hj w⟩ (fun b _ => by rw [hv b]; rfl)⟩
  · rcases List.mem_append.mp hq with q1 | q1
    · exact hf q q1
    · rw [List.mem_singleton.mp q1]
      show E.2.2.2.size ≤ zad E a
      rw [zad_hi h3]
      omega
theorem zs_putfield {i : Nat} {pc nx : Nat} {ci j : Nat} {hs : List Nat} {v : Value} {L : zLs} {S : List Value} {h : zIJ} {o : zO} {C : String} {T : u_T} {N : Nat} (X : zX p R kc ks s m args meth c cc n own rt E) (hd : decode cc pc = .ok (.putfield i, 3)) (hx : nx = pc + 3) (hc : vwCl[ci]? = some (C, T, N)) (hj : j < N) (hTC : (T j).1 = C) (hfin : (T j).2.2.2 = false) (hw : Cond.fieldLink own i C (T j).2.1 (T j).2.2.1 ∈ zTG) (hz : zex n rt (pc, .putfield i, nx, ci :: j :: hs, v) L S h = some o) : zOn p l e R s m args below meth c Q E kc ks n pc nx L S h o := by
  match S, hz with
  | w :: .ref a :: r, hz =>
    have hz2 : zpfT (zty ci j) (Nat.beq (zC a).1 ci) a j w L r h = some o := hz
    clear hz
    subst hx
    generalize hty : zty ci j = ty at hz2
    unfold zpfT at hz2
    split at hz2
    · rename_i x
      cases hz2
      intro hb k H locs ls hR hf hl
      refine zputW (h := h) (h' := zsI h a j x) (w := .int x) X hd hc hj hTC hfin hw (Nat.eq_of_beq_eq_true hb) (by rw [hty]; rfl) (by rw [hty]; rfl) (fun k hk => zup_other hk) (fun k _ => rfl) (fun b => ?_) k hR hf hl
      split
      · rename_i hbj; subst hbj
        rw [hty]
        show Value.int (zup h.1 a b x a b) = _
        rw [zup_self, if_pos rfl]
      · rename_i hbj; rw [zfv_upI hbj]
    · rename_i x
      cases hz2
      intro hb k H locs ls hR hf hl
      rw [Bool.and_eq_true] at hb
      have hx2 : x = 0 ∨ x = 1 := by
        have h2 := hb.2
        unfold zbit at h2
        simpa using h2
      refine zputW (h := h) (h' := zsI h a j x) (w := .int x) X hd hc hj hTC hfin hw (Nat.eq_of_beq_eq_true hb.1) (by rw [hty]; rcases hx2 with rfl | rfl <;> rfl) (by rw [hty]; rcases hx2 with rfl | rfl <;> rfl) (fun k hk => zup_other hk) (fun k _ => rfl) (fun b => ?_) k hR hf hl
      split
      · rename_i hbj; subst hbj
        rw [hty]
        show Value.int (zup h.1 a b x a b) = _
        rw [zup_self, if_pos rfl]
      · rename_i hbj; rw [zfv_upI hbj]
    · rename_i x
      cases hz2
      intro hb k H locs ls hR hf hl
      refine zputW (h := h) (h' := zsL h a j x) (w := .long x) X hd hc hj hTC hfin hw (Nat.eq_of_beq_eq_true hb) (by rw [hty]; rfl) (by rw [hty]; rfl) (fun k _ => rfl) (fun k hk => zup_other hk) (fun b => ?_) k hR hf hl
      split
      · rename_i hbj; subst hbj
        rw [hty]
        show Value.long (zup h.2 a b x a b) = _
        rw [zup_self, if_pos rfl]
      · rename_i hbj; rw [zfv_upL hbj]
    · cases hz2
theorem zs_getstatic {i : Nat} {pc nx : Nat} {k0 : Nat} {hs : List Nat} {v : Value} {L : zLs} {S : List Value} {h : zIJ} {o : zO} (X : zX p R kc ks s m args meth c cc n own rt E) (hd : decode cc pc = .ok (.getstatic i, 3)) (hx : nx = pc + 3) (hw : (k0 = 1 ∧ Cond.fieldLinkNest own i "MarkedSweeps" "LESSER_END" "[I" "MarkedSweeps" ∈ zNest) ∨ (k0 = 2 ∧ Cond.fieldLinkNest own i "MarkedSweeps" "GREATER_END" "[I" "MarkedSweeps" ∈ zNest)) (hz : zex n rt (pc, .getstatic i, nx, k0 :: hs, v) L S h = some o) : zOn p l e R s m args below meth c Q E kc ks n pc nx L S h o := by
  cases hz
  subst hx
  intro _ k H locs ls hR hf hl
  obtain ⟨hx, hcc, hml, hown, hts, hF, -⟩ := X
  rcases hw with ⟨rfl, hw⟩ | ⟨rfl, hw⟩
  · obtain ⟨cf, kf, fi, f, a, cell, h1, h2, h3, h4, h5, h6, h7, h8⟩ := hF.2.2.1
    exact va_WgetsN hx hcc hown (va_Nw.use rfl (hF.2.1 _ hw)) h1 h2 h3 h4 (by rw [hR.2.2.1 a (Array.getElem?_eq_some_iff.mp h5).1]; exact h5) (fun e => by rw [e] at h6; cases h6) h7 rfl hd (k H locs ls hR hf hl)
  · obtain ⟨cf, kf, fi, f, a, cell, h1, h2, h3, h4, h5, h6, h7, h8⟩ := hF.2.2.2
    exact va_WgetsN hx hcc hown (va_Nw.use rfl (hF.2.1 _ hw)) h1 h2 h3 h4 (by rw [hR.2.2.1 a (Array.getElem?_eq_some_iff.mp h5).1]; exact h5) (fun e => by rw [e] at h6; cases h6) h7 rfl hd (k H locs ls hR hf hl)
/-- how a method ends -/
def zQ (E : zE) (r : Option Value) (h : zIJ) : Array Value → State → Outcome → State → Prop := fun _ _ oc t => oc = .returned (r.map (zv E)) ∧ zR E t h t.heap ∧ zF E t
def zFree (E : zE) : Nat → Prop := fun q => E.2.2.2.size ≤ q
theorem zQ_at {r : Option Value} {h : zIJ} {H : Heap} {t : State} (hF : zF E s) (hR : zR E s h H) (ht : t.heap = H) (hw : s.WarmedH t.vm) : zQ E r h args s (.returned (r.map (zv E))) t :=
  ⟨rfl, by rw [ht]; exact zR_s hw.alike hR, zF_s hw hF⟩
theorem zs_ret {i : Instr} {pc nx : Nat} {hs : List Nat} {v : Value} {L : zLs} {S : List Value} {h : zIJ} {b : Bool} {t : Nat} {as S' : List Value} {L' : zLs} {h' : zIJ} (X : zX p R kc ks s m args meth c cc n own rt E) (hd : decode cc pc = .ok (i, 1)) (hi : i = .ireturn ∨ i = .lreturn ∨ i = .return_) (hz : zex n rt (pc, i, nx, hs, v) L S h = some (4, b, t, as, L', S', h')) (hb : b = true) : zN p l e R s m args below meth c (MQ below (zQ E as.head? h') args s kc ks (zFree E)) E kc ks n pc L S h := by
  obtain ⟨hx, hcc, hml, hown, hts, hF, hlocks, hr, -⟩ := X
  intro H locs ls hR hf hl
  rcases hi with rfl | rfl | rfl
  · have hz2 : zrI rt L S h = some (4, b, t, as, L', S', h') := hz
    clear hz
    unfold zrI at hz2
    split at hz2
    · cases hz2
      exact W.iret hx hcc hr (fun t ht hw => zQ_at (r := some (.int _)) hF hR ht hw) hf hd hlocks
    · rename_i x
      cases hz2
      have hx2 : x = 0 ∨ x = 1 := by
        unfold zbit at hb
        simpa using hb
      exact W.zret hx hcc hr (by rcases hx2 with rfl | rfl <;> rfl) (fun t ht hw => zQ_at (r := some (.int _)) hF hR ht hw) hf hd hlocks
    · cases hz2
  · have hz2 : zrL rt L S h = some (4, b, t, as, L', S', h') := hz
    clear hz
    unfold zrL at hz2
    split at hz2
    · cases hz2
      exact W.lret hx hcc hr (fun t ht hw => zQ_at (r := some (.long _)) hF hR ht hw) hf hd hlocks
    · cases hz2
  · have hz2 : zrV rt L S h = some (4, b, t, as, L', S', h') := hz
    clear hz
    unfold zrV at hz2
    split at hz2
    · cases hz2
      exact W.vret hx hcc hr (fun t ht hw => zQ_at (r := none) hF hR ht hw) hf hd hlocks
    · cases hz2
end ZS3
