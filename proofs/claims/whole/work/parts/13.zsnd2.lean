/-! Instructions that read and write the heap. -/
section ZS2
variable {p : Program} {l : Launch} {e : Env} {R : Room} {s : State} {m : MethodId} {args : Array Value} {below : List Frame} {meth : Method} {c : Code} {Q : State → Prop} {E : zE} {n : Nat} {cc : ByteArray} {own : String} {rt : Option FieldType} {kc ks : Nat}
theorem zc_obj {h : zIJ} {H : Heap} (hR : zR E s h H) {a ci : Nat} (hk : (zC a).1 = ci) (hci : ci < 100) : 3 ≤ a ∧ ∃ r : vw_C, vwCl[ci]? = some r ∧ r.2.2 = (zC a).2 ∧ t_OB (zad E a) (E.2.1.1 ci) (zC a).2 (E.2.1.2 ci) H (fun j => zv E (zfv h a j (zty ci j))) := by
  have hc := hR.2.2.2 a (zC_in hk (by omega))
  unfold zcell at hc
  rw [hk, if_pos hci] at hc
  exact ⟨zC_3 hk (by omega), hc⟩
theorem zc_ints {h : zIJ} {H : Heap} (hR : zR E s h H) {a : Nat} (hk : (zC a).1 = 100) : 3 ≤ a ∧ H[zad E a]? = some (arrV (E.2.2.1 0) (zC a).2 (fun j => .int (h.1 a j))) := by
  have hc := hR.2.2.2 a (zC_in hk (by omega))
  unfold zcell at hc
  rw [hk] at hc
  exact ⟨zC_3 hk (by omega), hc⟩
theorem zc_longs {h : zIJ} {H : Heap} (hR : zR E s h H) {a : Nat} (hk : (zC a).1 = 101) : 3 ≤ a ∧ H[zad E a]? = some (arrV (E.2.2.1 1) (zC a).2 (fun j => .long (h.2 a j))) := by
  have hc := hR.2.2.2 a (zC_in hk (by omega))
  unfold zcell at hc
  rw [hk] at hc
  exact ⟨zC_3 hk (by omega), hc⟩
theorem zc_refs {h : zIJ} {H : Heap} (hR : zR E s h H) {a t : Nat} (hk : (zC a).1 = t) (h1 : 102 ≤ t) (h2 : t ≤ 105) : 3 ≤ a ∧ H[zad E a]? = some (arrV (E.2.2.1 (t - 100)) (zC a).2 (fun j => .ref (zad E (zRf a j)))) := by
  have hc := hR.2.2.2 a (zC_in hk (by omega))
  unfold zcell at hc
  rw [hk, if_neg (by omega), if_neg (by omega), if_neg (by omega), if_pos (by omega)] at hc
  exact ⟨zC_3 hk (by omega), hc⟩
/-- any array of ints, as it is read -/
theorem zc_any {h : zIJ} {H : Heap} (hK : va_K E.2.1 vwCl (zTys E) s) (hR : zR E s h H) {a : Nat} (hk : zisI (zC a).1 = true) : zro E s a (zlen h a) (zrd h a) H := by
  unfold zisI at hk
  simp only [Bool.or_eq_true, Bool.and_eq_true] at hk
  rcases hk with hk | hk
  · have hk : (zC a).1 = 100 := Nat.eq_of_beq_eq_true hk
    obtain ⟨-, hc⟩ := zc_ints hR hk
    have e1 : zlen h a = (zC a).2 := by unfold zlen; rw [hk]; rfl
    have e2 : ∀ j, zrd h a j = h.1 a j := fun j => by unfold zrd; rw [hk]; rfl
    rw [e1]
    exact ⟨_, hc, (hK.2 0 (E.2.2.1 0, .int) rfl).1 _ _, (fun q => by cases q), arrV_size _ _ _, fun j hj => by rw [arrV_read _ _ hj, e2 j]⟩
  · have h1 := Nat.le_of_ble_eq_true hk.1
    have h2 := Nat.le_of_ble_eq_true hk.2
    have hc := hR.2.2.2 a (zC_in rfl (by omega))
    unfold zcell at hc
    rw [if_neg (by omega), if_neg (by omega), if_neg (by omega), if_neg (by omega)] at hc
    by_cases e0 : (zC a).1 = 110
    · rw [if_pos e0] at hc
      have e1 : zlen h a = (h.1 a 5000).toNatClampNeg := by unfold zlen; rw [e0]; rfl
      have e2 : zrd h a = h.1 a := by funext j; unfold zrd; rw [e0]; rfl
      rw [e1, e2]
      exact hc
    · rw [if_neg e0] at hc
      have e1 : zlen h a = (zC a).2 := by unfold zlen; rw [zbeqf e0]; rfl
      rw [e1]
      by_cases e3 : (zC a).1 = 111
      · rw [if_pos e3] at hc
        have e2 : zrd h a = zLE := by funext j; unfold zrd; rw [e3]; rfl
        rw [e2]
        exact hc
      · rw [if_neg e3] at hc
        have e4 : (zC a).1 = 112 := by omega
        have e2 : zrd h a = zGE := by funext j; unfold zrd; rw [e4]; rfl
        rw [e2]
        exact hc
theorem zs_iaload {pc nx : Nat} {hs : List Nat} {v : Value} {L : zLs} {S : List Value} {h : zIJ} {o : zO} (X : zX p R kc ks s m args meth c cc n own rt E) (hd : decode cc pc = .ok (.iaload, 1)) (hx : nx = pc + 1) (hz : zex n rt (pc, .iaload, nx, hs, v) L S h = some o) : zOn p l e R s m args below meth c Q E kc ks n pc nx L S h o := by
  match S, hz with
  | .int i :: .ref a :: r, hz =>
    cases hz
    subst hx
    intro hb k H locs ls hR hf hl
    rw [Bool.and_eq_true] at hb
    obtain ⟨cell, c1, c2, c3, c4, c5⟩ := zc_any X.2.2.2.2.2.1.1 hR hb.1
    have hi := zin_in hb.2
    exact W.iald X.1 X.2.1 c1 c2 c3 (by rw [c4]; exact hi) (c5 _ (vp_lt hi)) rfl rfl hd (k H locs ls hR hf hl)
theorem zs_laload {pc nx : Nat} {hs : List Nat} {v : Value} {L : zLs} {S : List Value} {h : zIJ} {o : zO} (X : zX p R kc ks s m args meth c cc n own rt E) (hd : decode cc pc = .ok (.laload, 1)) (hx : nx = pc + 1) (hz : zex n rt (pc, .laload, nx, hs, v) L S h = some o) : zOn p l e R s m args below meth c Q E kc ks n pc nx L S h o := by
  match S, hz with
  | .int i :: .ref a :: r, hz =>
    cases hz
    subst hx
    intro hb k H locs ls hR hf hl
    rw [Bool.and_eq_true] at hb
    obtain ⟨-, hc⟩ := zc_longs hR (Nat.eq_of_beq_eq_true hb.1)
    have hi := zin_in hb.2
    exact W.lald X.1 X.2.1 hc ((X.2.2.2.2.2.1.1.2 1 (E.2.2.1 1, .long) rfl).1 _ _) (fun q => by cases q) (by rw [arrV_size]; exact hi) (arrV_read _ _ (vp_lt hi)) rfl rfl hd (k H locs ls hR hf hl)
theorem zs_aaload {pc nx : Nat} {hs : List Nat} {v : Value} {L : zLs} {S : List Value} {h : zIJ} {o : zO} (X : zX p R kc ks s m args meth c cc n own rt E) (hd : decode cc pc = .ok (.aaload, 1)) (hx : nx = pc + 1) (hz : zex n rt (pc, .aaload, nx, hs, v) L S h = some o) : zOn p l e R s m args below meth c Q E kc ks n pc nx L S h o := by
  match S, hz with
  | .int i :: .ref a :: r, hz =>
    cases hz
    subst hx
    intro hb k H locs ls hR hf hl
    rw [Bool.and_eq_true] at hb
    have hk := hb.1
    unfold zisR at hk
    rw [Bool.and_eq_true] at hk
    have h1 := Nat.le_of_ble_eq_true hk.1
    have h2 := Nat.le_of_ble_eq_true hk.2
    obtain ⟨-, hc⟩ := zc_refs hR rfl h1 h2
    have hi := zin_in hb.2
    have hK := X.2.2.2.2.2.1.1
    have ht : ∃ ty : FieldType, (zTys E)[(zC a).1 - 100]? = some (E.2.2.1 ((zC a).1 - 100), ty) ∧ ty.isReference = true := by
      rcases (show (zC a).1 = 102 ∨ (zC a).1 = 103 ∨ (zC a).1 = 104 ∨ (zC a).1 = 105 by omega) with q | q | q | q <;> rw [q] <;> exact ⟨_, rfl, rfl⟩
    obtain ⟨ty, t1, t2⟩ := ht
    exact W.aald X.1 X.2.1 hc ((hK.2 _ _ t1).1 _ _) t2 (fun q => by cases q) (by rw [arrV_size]; exact hi) (arrV_read _ _ (vp_lt hi)) rfl rfl hd (k H locs ls hR hf hl)
theorem zs_iastore {pc nx : Nat} {hs : List Nat} {v : Value} {L : zLs} {S : List Value} {h : zIJ} {o : zO} (X : zX p R kc ks s m args meth c cc n own rt E) (hd : decode cc pc = .ok (.iastore, 1)) (hx : nx = pc + 1) (hz : zex n rt (pc, .iastore, nx, hs, v) L S h = some o) : zOn p l e R s m args below meth c Q E kc ks n pc nx L S h o := by
  match S, hz with
  | .int x :: .int i :: .ref a :: r, hz =>
    cases hz
    subst hx
    intro hb k H locs ls hR hf hl
    rw [Bool.and_eq_true] at hb
    have hk := Nat.eq_of_beq_eq_true hb.1
    obtain ⟨h3, hc⟩ := zc_ints hR hk
    have hi := zin_in hb.2
    refine W.iast X.1 X.2.1 hc ((X.2.2.2.2.2.1.1.2 0 (E.2.2.1 0, .int) rfl).1 _ _) (fun q => by cases q) (by rw [arrV_size]; exact hi) rfl rfl hd fun H' e1 e2 e3 => ?_
    refine k H' _ ls (zR_set hR h3 (fun k hk => zup_other hk) (fun k _ => rfl) e2 e3 (fun _ => ?_)) (fun q hq => ?_) hl
    · unfold zcell
      rw [hk]
      show H'[zad E a]? = some _
      rw [e1, arrV_store]
      congr 2
      funext j
      show updV _ _ _ _ = Value.int (zup h.1 a _ x a j)
      rw [zup_self]
      unfold updV
      split <;> rfl
    · rcases List.mem_append.mp hq with q1 | q1
      · exact hf q q1
      · rw [List.mem_singleton.mp q1]
        show E.2.2.2.size ≤ zad E a
        rw [zad_hi h3]
        omega
theorem zs_lastore {pc nx : Nat} {hs : List Nat} {v : Value} {L : zLs} {S : List Value} {h : zIJ} {o : zO} (X : zX p R kc ks s m args meth c cc n own rt E) (hd : decode cc pc = .ok (.lastore, 1)) (hx : nx = pc + 1) (hz : zex n rt (pc, .lastore, nx, hs, v) L S h = some o) : zOn p l e R s m args below meth c Q E kc ks n pc nx L S h o := by
  match S, hz with
  | .long x :: .int i :: .ref a :: r, hz =>
    cases hz
    subst hx
    intro hb k H locs ls hR hf hl
    rw [Bool.and_eq_true] at hb
    have hk := Nat.eq_of_beq_eq_true hb.1
    obtain ⟨h3, hc⟩ := zc_longs hR hk
    have hi := zin_in hb.2
    refine W.last X.1 X.2.1 hc ((X.2.2.2.2.2.1.1.2 1 (E.2.2.1 1, .long) rfl).1 _ _) (fun q => by cases q) (by rw [arrV_size]; exact hi) rfl rfl hd fun H' e1 e2 e3 => ?_
    refine k H' _ ls (zR_set hR h3 (fun k _ => rfl) (fun k hk => zup_other hk) e2 e3 (fun _ => ?_)) (fun q hq => ?_) hl
    · unfold zcell
      rw [hk]
      show H'[zad E a]? = some _
      rw [e1, arrV_store]
      congr 2
      funext j
      show updV _ _ _ _ = Value.long (zup h.2 a _ x a j)
      rw [zup_self]
      unfold updV
      split <;> rfl
    · rcases List.mem_append.mp hq with q1 | q1
      · exact hf q q1
      · rw [List.mem_singleton.mp q1]
        show E.2.2.2.size ≤ zad E a
        rw [zad_hi h3]
        omega
theorem zs_arraylength {pc nx : Nat} {hs : List Nat} {v : Value} {L : zLs} {S : List Value} {h : zIJ} {o : zO} (X : zX p R kc ks s m args meth c cc n own rt E) (hd : decode cc pc = .ok (.arraylength, 1)) (hx : nx = pc + 1) (hz : zex n rt (pc, .arraylength, nx, hs, v) L S h = some o) : zOn p l e R s m args below meth c Q E kc ks n pc nx L S h o := by
  match S, hz with
  | .ref a :: r, hz =>
    cases hz
    subst hx
    intro hb k H locs ls hR hf hl
    rw [Bool.or_eq_true] at hb
    rcases hb with hb | hb
    · obtain ⟨cell, c1, c2, c3, c4, c5⟩ := zc_any X.2.2.2.2.2.1.1 hR hb
      exact W.alen X.1 X.2.1 c1 c2 (by rw [c4]) rfl rfl hd (k H locs ls hR hf hl)
    · have hk := Nat.eq_of_beq_eq_true hb
      obtain ⟨-, hc⟩ := zc_longs hR hk
      have e1 : zlen h a = (zC a).2 := by unfold zlen; rw [hk]; rfl
      exact W.alen X.1 X.2.1 hc ((X.2.2.2.2.2.1.1.2 1 (E.2.2.1 1, .long) rfl).1 _ _) (by rw [arrV_size, e1]) rfl rfl hd (k H locs ls hR hf hl)
/-- what the tables give of a class by its number -/
def zcls (ci : Nat) : Prop := ∀ (C : String) (T : u_T) (N : Nat), vwCl[ci]? = some (C, T, N) → (∀ w ∈ u_ws C T N, w ∈ zTG) ∧ (∀ k, k < N → parseFieldDescriptor (T k).2.2.1 = some (zty ci k)) ∧ (∀ a, a < N → ∀ b, b < N → a ≠ b → (T a).2.1 ≠ (T b).2.1)
end ZS2
