/-! Any instruction of a checked method; blocks; runs. -/
section ZS5
variable {p : Program} {l : Launch} {e : Env} {R : Room} {s : State} {m : MethodId} {args : Array Value} {below : List Frame} {meth : Method} {c : Code} {Q : State → Prop} {E : zE} {n : Nat} {cc : ByteArray} {own : String} {rt : Option FieldType} {kc ks : Nat}
theorem zok_word {pl : Nat} {w : Cond} (h : zword pl w = true) (hg : goodWord w = true) : w ∈ zTG := zTG_at (of_decide_eq_true h) hg
theorem zok_nest {pl : Nat} {w : Cond} (h : zword pl w = true) (hg : zNw w = true) : w ∈ zNest := zNest_at (of_decide_eq_true h) hg
theorem zw_copy : Cond.native arraycopyName ∈ zTG ∧ Cond.static arraycopyName ∈ zTG ∧ Cond.initialized "java/lang/System" ∈ zTG := by decide +kernel
theorem zw_math : (Cond.initialized "java/lang/Math" ∈ zTG ∧ Cond.static Lib.Math.max.name ∈ zTG ∧ Cond.code Lib.Math.max.name Lib.Math.max.code 2 (some .int) ∈ zTG) ∧ (Cond.static Lib.Math.min.name ∈ zTG ∧ Cond.code Lib.Math.min.name Lib.Math.min.code 2 (some .int) ∈ zTG) ∧ (Cond.static Lib.Math.abs.name ∈ zTG ∧ Cond.code Lib.Math.abs.name Lib.Math.abs.code 1 (some .int) ∈ zTG) ∧ (Cond.static Lib.MathLoose.max_long.x ∈ zTG ∧ Cond.code Lib.MathLoose.max_long.x Lib.MathLoose.max_long.code 4 (some .long) ∈ zTG) ∧ (Cond.static Lib.MathLoose.min_long.x ∈ zTG ∧ Cond.code Lib.MathLoose.min_long.x Lib.MathLoose.min_long.code 4 (some .long) ∈ zTG) := by decide +kernel
theorem zs_maxI {i : Nat} {pc nx : Nat} {hs : List Nat} {v : Value} {L : zLs} {S : List Value} {h : zIJ} {o : zO} (X : zX p R kc ks s m args meth c cc n own rt E) (hd : decode cc pc = .ok (.invokestatic i, 3)) (hx : nx = pc + 3) (hw : Cond.methodLink own i Lib.Math.max.name ∈ zTG) (hz : zex n rt (pc, .invokestatic i, nx, 990 :: hs, v) L S h = some o) : zOn p l e R s m args below meth c Q E kc ks n pc nx L S h o := by
  subst hx
  obtain ⟨hx, hcc, hml, hown, hts, hF, -, -, hfr, hlo, hkc, hks⟩ := X
  have hz2 : zm2I zmxI L S h = some o := hz
  clear hz
  match S, hz2 with
  | .int y :: .int x :: r, hz2 =>
    obtain ⟨hcat, hz⟩ := zcond (show cond (Nat.ble (zcat r) 8) (zgo0 L (.int (zmxI x y) :: r) h) none = some o from hz2)
    have hcat := Nat.le_of_ble_eq_true hcat
    have hcs := zcat_sum (E := E) r
    cases hz
    intro _ k H locs ls hR hf hl
    exact va_mmax hx hcc (by rw [hml]; exact hl.1.symm) hown (hts _ hw) (hts _ zw_math.1.2.1) (hts _ zw_math.1.1) (hts _ zw_math.1.2.2) hfr (by omega) hkc hks hd (k H locs ls hR hf hl)
theorem zs_minI {i : Nat} {pc nx : Nat} {hs : List Nat} {v : Value} {L : zLs} {S : List Value} {h : zIJ} {o : zO} (X : zX p R kc ks s m args meth c cc n own rt E) (hd : decode cc pc = .ok (.invokestatic i, 3)) (hx : nx = pc + 3) (hw : Cond.methodLink own i Lib.Math.min.name ∈ zTG) (hz : zex n rt (pc, .invokestatic i, nx, 991 :: hs, v) L S h = some o) : zOn p l e R s m args below meth c Q E kc ks n pc nx L S h o := by
  subst hx
  obtain ⟨hx, hcc, hml, hown, hts, hF, -, -, hfr, hlo, hkc, hks⟩ := X
  have hz2 : zm2I zmnI L S h = some o := hz
  clear hz
  match S, hz2 with
  | .int y :: .int x :: r, hz2 =>
    obtain ⟨hcat, hz⟩ := zcond (show cond (Nat.ble (zcat r) 8) (zgo0 L (.int (zmnI x y) :: r) h) none = some o from hz2)
    have hcat := Nat.le_of_ble_eq_true hcat
    have hcs := zcat_sum (E := E) r
    cases hz
    intro _ k H locs ls hR hf hl
    exact va_mmin hx hcc (by rw [hml]; exact hl.1.symm) hown (hts _ hw) (hts _ zw_math.2.1.1) (hts _ zw_math.1.1) (hts _ zw_math.2.1.2) hfr (by omega) hkc hks hd (k H locs ls hR hf hl)
theorem zs_absI {i : Nat} {pc nx : Nat} {hs : List Nat} {v : Value} {L : zLs} {S : List Value} {h : zIJ} {o : zO} (X : zX p R kc ks s m args meth c cc n own rt E) (hd : decode cc pc = .ok (.invokestatic i, 3)) (hx : nx = pc + 3) (hw : Cond.methodLink own i Lib.Math.abs.name ∈ zTG) (hz : zex n rt (pc, .invokestatic i, nx, 992 :: hs, v) L S h = some o) : zOn p l e R s m args below meth c Q E kc ks n pc nx L S h o := by
  subst hx
  obtain ⟨hx, hcc, hml, hown, hts, hF, -, -, hfr, hlo, hkc, hks⟩ := X
  have hz2 : zm1I zabI L S h = some o := hz
  clear hz
  match S, hz2 with
  | .int x :: r, hz2 =>
    obtain ⟨hcat, hz⟩ := zcond (show cond (Nat.ble (zcat r) 8) (zgo0 L (.int (zabI x) :: r) h) none = some o from hz2)
    have hcat := Nat.le_of_ble_eq_true hcat
    have hcs := zcat_sum (E := E) r
    cases hz
    intro _ k H locs ls hR hf hl
    exact va_mabs hx hcc (by rw [hml]; exact hl.1.symm) hown (hts _ hw) (hts _ zw_math.2.2.1.1) (hts _ zw_math.1.1) (hts _ zw_math.2.2.1.2) hfr (by omega) hkc hks hd (k H locs ls hR hf hl)
theorem zs_maxL {i : Nat} {pc nx : Nat} {hs : List Nat} {v : Value} {L : zLs} {S : List Value} {h : zIJ} {o : zO} (X : zX p R kc ks s m args meth c cc n own rt E) (hd : decode cc pc = .ok (.invokestatic i, 3)) (hx : nx = pc + 3) (hw : Cond.methodLink own i Lib.MathLoose.max_long.x ∈ zTG) (hz : zex n rt (pc, .invokestatic i, nx, 993 :: hs, v) L S h = some o) : zOn p l e R s m args below meth c Q E kc ks n pc nx L S h o := by
  subst hx
  obtain ⟨hx, hcc, hml, hown, hts, hF, -, -, hfr, hlo, hkc, hks⟩ := X
  have hz2 : zm2L zmxL L S h = some o := hz
  clear hz
  match S, hz2 with
  | .long y :: .long x :: r, hz2 =>
    obtain ⟨hcat, hz⟩ := zcond (show cond (Nat.ble (zcat r) 8) (zgo0 L (.long (zmxL x y) :: r) h) none = some o from hz2)
    have hcat := Nat.le_of_ble_eq_true hcat
    have hcs := zcat_sum (E := E) r
    cases hz
    intro _ k H locs ls hR hf hl
    exact va_mmax_long hx hcc (by rw [hml]; exact hl.1.symm) hown (hts _ hw) (hts _ zw_math.2.2.2.1.1) (hts _ zw_math.1.1) (hts _ zw_math.2.2.2.1.2) hfr (by omega) hkc hks hd (k H locs ls hR hf hl)
theorem zs_minL {i : Nat} {pc nx : Nat} {hs : List Nat} {v : Value} {L : zLs} {S : List Value} {h : zIJ} {o : zO} (X : zX p R kc ks s m args meth c cc n own rt E) (hd : decode cc pc = .ok (.invokestatic i, 3)) (hx : nx = pc + 3) (hw : Cond.methodLink own i Lib.MathLoose.min_long.x ∈ zTG) (hz : zex n rt (pc, .invokestatic i, nx, 994 :: hs, v) L S h = some o) : zOn p l e R s m args below meth c Q E kc ks n pc nx L S h o := by
  subst hx
  obtain ⟨hx, hcc, hml, hown, hts, hF, -, -, hfr, hlo, hkc, hks⟩ := X
  have hz2 : zm2L zmnL L S h = some o := hz
  clear hz
  match S, hz2 with
  | .long y :: .long x :: r, hz2 =>
    obtain ⟨hcat, hz⟩ := zcond (show cond (Nat.ble (zcat r) 8) (zgo0 L (.long (zmnL x y) :: r) h) none = some o from hz2)
    have hcat := Nat.le_of_ble_eq_true hcat
    have hcs := zcat_sum (E := E) r
    cases hz
    intro _ k H locs ls hR hf hl
    exact va_mmin_long hx hcc (by rw [hml]; exact hl.1.symm) hown (hts _ hw) (hts _ zw_math.2.2.2.2.1) (hts _ zw_math.1.1) (hts _ zw_math.2.2.2.2.2) hfr (by omega) hkc hks hd (k H locs ls hR hf hl)
theorem zinv_tag {virt : Bool} {hs : List Nat} {L : zLs} {S : List Value} {h : zIJ} {o : zO} (hz : zinv virt hs L S h = some o) : o.1 = 3 := by
  unfold zinv at hz
  split at hz
  · split at hz
    · obtain ⟨-, hz⟩ := zcond hz
      cases virt with
      | true =>
        dsimp only [cond_true] at hz
        split at hz
        · cases hz; rfl
        · cases hz
      | false => cases hz; rfl
    · cases hz
  · cases hz
theorem zOn_3 {pc nx : Nat} {L : zLs} {S : List Value} {h : zIJ} {o : zO} (ho : 3 ≤ o.1) : zOn p l e R s m args below meth c Q E kc ks n pc nx L S h o := by
  obtain ⟨tag, b, t, as, L', S', h'⟩ := o
  match tag, ho with
  | 0, ho => exact absurd (show (3 : Nat) ≤ 0 from ho) (by decide)
  | 1, ho => exact absurd (show (3 : Nat) ≤ 1 from ho) (by decide)
  | 2, ho => exact absurd (show (3 : Nat) ≤ 2 from ho) (by decide)
  | q + 3, _ => trivial
theorem zs_all {pc nx : Nat} {ins : Instr} {hs : List Nat} {v : Value} {L : zLs} {S : List Value} {h : zIJ} {o : zO} (X : zX p R kc ks s m args meth c cc n own rt E) (hok : zokE own cc (pc, ins, nx, hs, v) = true) (hz : zex n rt (pc, ins, nx, hs, v) L S h = some o) : zOn p l e R s m args below meth c Q E kc ks n pc nx L S h o := by
  unfold zokE at hok
  rw [Bool.and_eq_true] at hok
  obtain ⟨hd0, hi0⟩ := hok
  have hd : decode cc pc = .ok (ins, nx - pc) := of_decide_eq_true hd0
  have hi : zokI own pc ins nx hs v = true := hi0
  clear hd0 hi0
  cases ins
  all_goals try (exact nomatch (show (none : Option zO) = some o from hz))
  case iadd =>
    have hx : nx = pc + 1 := Nat.eq_of_beq_eq_true hi
    rw [hx, Nat.add_sub_cancel_left] at hd
    exact zs_iadd X hd hx hz
  case isub =>
    have hx : nx = pc + 1 := Nat.eq_of_beq_eq_true hi
    rw [hx, Nat.add_sub_cancel_left] at hd
    exact zs_isub X hd hx hz
  case imul =>
    have hx : nx = pc + 1 := Nat.eq_of_beq_eq_true hi
    rw [hx, Nat.add_sub_cancel_left] at hd
    exact zs_imul X hd hx hz
  case iand =>
    have hx : nx = pc + 1 := Nat.eq_of_beq_eq_true hi
    rw [hx, Nat.add_sub_cancel_left] at hd
    exact zs_iand X hd hx hz
  case ior =>
    have hx : nx = pc + 1 := Nat.eq_of_beq_eq_true hi
    rw [hx, Nat.add_sub_cancel_left] at hd
    exact zs_ior X hd hx hz
  case ixor =>
    have hx : nx = pc + 1 := Nat.eq_of_beq_eq_true hi
    rw [hx, Nat.add_sub_cancel_left] at hd
    exact zs_ixor X hd hx hz
  case ishl =>
    have hx : nx = pc + 1 := Nat.eq_of_beq_eq_true hi
    rw [hx, Nat.add_sub_cancel_left] at hd
    exact zs_ishl X hd hx hz
  case ishr =>
    have hx : nx = pc + 1 := Nat.eq_of_beq_eq_true hi
    rw [hx, Nat.add_sub_cancel_left] at hd
    exact zs_ishr X hd hx hz
  case iushr =>
    have hx : nx = pc + 1 := Nat.eq_of_beq_eq_true hi
    rw [hx, Nat.add_sub_cancel_left] at hd
    exact zs_iushr X hd hx hz
  case idiv =>
    have hx : nx = pc + 1 := Nat.eq_of_beq_eq_true hi
    rw [hx, Nat.add_sub_cancel_left] at hd
    exact zs_idiv X hd hx hz
  case irem =>
    have hx : nx = pc + 1 := Nat.eq_of_beq_eq_true hi
    rw [hx, Nat.add_sub_cancel_left] at hd
    exact zs_irem X hd hx hz
  case ineg =>
    have hx : nx = pc + 1 := Nat.eq_of_beq_eq_true hi
    rw [hx, Nat.add_sub_cancel_left] at hd
    exact zs_ineg X hd hx hz
  case ladd =>
    have hx : nx = pc + 1 := Nat.eq_of_beq_eq_true hi
    rw [hx, Nat.add_sub_cancel_left] at hd
    exact zs_ladd X hd hx hz
  case lsub =>
    have hx : nx = pc + 1 := Nat.eq_of_beq_eq_true hi
    rw [hx, Nat.add_sub_cancel_left] at hd
    exact zs_lsub X hd hx hz
  case lmul =>
    have hx : nx = pc + 1 := Nat.eq_of_beq_eq_true hi
    rw [hx, Nat.add_sub_cancel_left] at hd
    exact zs_lmul X hd hx hz
  case land =>
    have hx : nx = pc + 1 := Nat.eq_of_beq_eq_true hi
    rw [hx, Nat.add_sub_cancel_left] at hd
    exact zs_land X hd hx hz
  case lor =>
    have hx : nx = pc + 1 := Nat.eq_of_beq_eq_true hi
    rw [hx, Nat.add_sub_cancel_left] at hd
    exact zs_lor X hd hx hz
  case lxor =>
    have hx : nx = pc + 1 := Nat.eq_of_beq_eq_true hi
    rw [hx, Nat.add_sub_cancel_left] at hd
    exact zs_lxor X hd hx hz
  case ldiv =>
    have hx : nx = pc + 1 := Nat.eq_of_beq_eq_true hi
    rw [hx, Nat.add_sub_cancel_left] at hd
    exact zs_ldiv X hd hx hz
  case lrem =>
    have hx : nx = pc + 1 := Nat.eq_of_beq_eq_true hi
    rw [hx, Nat.add_sub_cancel_left] at hd
    exact zs_lrem X hd hx hz
  case lshl =>
    have hx : nx = pc + 1 := Nat.eq_of_beq_eq_true hi
    rw [hx, Nat.add_sub_cancel_left] at hd
    exact zs_lshl X hd hx hz
  case lshr =>
    have hx : nx = pc + 1 := Nat.eq_of_beq_eq_true hi
    rw [hx, Nat.add_sub_cancel_left] at hd
    exact zs_lshr X hd hx hz
  case lushr =>
    have hx : nx = pc + 1 := Nat.eq_of_beq_eq_true hi
    rw [hx, Nat.add_sub_cancel_left] at hd
    exact zs_lushr X hd hx hz
  case lcmp =>
    have hx : nx = pc + 1 := Nat.eq_of_beq_eq_true hi
    rw [hx, Nat.add_sub_cancel_left] at hd
    exact zs_lcmp X hd hx hz
  case i2l =>
    have hx : nx = pc + 1 := Nat.eq_of_beq_eq_true hi
    rw [hx, Nat.add_sub_cancel_left] at hd
    exact zs_i2l X hd hx hz
  case l2i =>
    have hx : nx = pc + 1 := Nat.eq_of_beq_eq_true hi
    rw [hx, Nat.add_sub_cancel_left] at hd
    exact zs_l2i X hd hx hz
  case i2b =>
    have hx : nx = pc + 1 := Nat.eq_of_beq_eq_true hi
    rw [hx, Nat.add_sub_cancel_left] at hd
    exact zs_i2b X hd hx hz
  case dup =>
    have hx : nx = pc + 1 := Nat.eq_of_beq_eq_true hi
    rw [hx, Nat.add_sub_cancel_left] at hd
    exact zs_dup X hd hx hz
  case dup2 =>
    have hx : nx = pc + 1 := Nat.eq_of_beq_eq_true hi
    rw [hx, Nat.add_sub_cancel_left] at hd
    exact zs_dup2 X hd hx hz
  case iaload =>
    have hx : nx = pc + 1 := Nat.eq_of_beq_eq_true hi
    rw [hx, Nat.add_sub_cancel_left] at hd
    exact zs_iaload X hd hx hz
  case laload =>
    have hx : nx = pc + 1 := Nat.eq_of_beq_eq_true hi
    rw [hx, Nat.add_sub_cancel_left] at hd
    exact zs_laload X hd hx hz
  case aaload =>
    have hx : nx = pc + 1 := Nat.eq_of_beq_eq_true hi
    rw [hx, Nat.add_sub_cancel_left] at hd
    exact zs_aaload X hd hx hz
  case iastore =>
    have hx : nx = pc + 1 := Nat.eq_of_beq_eq_true hi
    rw [hx, Nat.add_sub_cancel_left] at hd
    exact zs_iastore X hd hx hz
  case lastore =>
    have hx : nx = pc + 1 := Nat.eq_of_beq_eq_true hi
    rw [hx, Nat.add_sub_cancel_left] at hd
    exact zs_lastore X hd hx hz
  case arraylength =>
    have hx : nx = pc + 1 := Nat.eq_of_beq_eq_true hi
    rw [hx, Nat.add_sub_cancel_left] at hd
    exact zs_arraylength X hd hx hz
  case iload_n =>
    have hx : nx = pc + 1 := Nat.eq_of_beq_eq_true hi
    rw [hx, Nat.add_sub_cancel_left] at hd
    exact zs_iload_n X hd hx hz
  case lload_n =>
    have hx : nx = pc + 1 := Nat.eq_of_beq_eq_true hi
    rw [hx, Nat.add_sub_cancel_left] at hd
    exact zs_lload_n X hd hx hz
  case aload_n =>
    have hx : nx = pc + 1 := Nat.eq_of_beq_eq_true hi
    rw [hx, Nat.add_sub_cancel_left] at hd
    exact zs_aload_n X hd hx hz
  case istore_n =>
    have hx : nx = pc + 1 := Nat.eq_of_beq_eq_true hi
    rw [hx, Nat.add_sub_cancel_left] at hd
    exact zs_istore_n X hd hx hz
  case lstore_n =>
    have hx : nx = pc + 1 := Nat.eq_of_beq_eq_true hi
    rw [hx, Nat.add_sub_cancel_left] at hd
    exact zs_lstore_n X hd hx hz
  case astore_n =>
    have hx : nx = pc + 1 := Nat.eq_of_beq_eq_true hi
    rw [hx, Nat.add_sub_cancel_left] at hd
    exact zs_astore_n X hd hx hz
  case iload =>
    have hx : nx = pc + 2 := Nat.eq_of_beq_eq_true hi
    rw [hx, Nat.add_sub_cancel_left] at hd
    exact zs_iload X hd hx hz
  case lload =>
    have hx : nx = pc + 2 := Nat.eq_of_beq_eq_true hi
    rw [hx, Nat.add_sub_cancel_left] at hd
    exact zs_lload X hd hx hz
  case aload =>
    have hx : nx = pc + 2 := Nat.eq_of_beq_eq_true hi
    rw [hx, Nat.add_sub_cancel_left] at hd
    exact zs_aload X hd hx hz
  case istore =>
    have hx : nx = pc + 2 := Nat.eq_of_beq_eq_true hi
    rw [hx, Nat.add_sub_cancel_left] at hd
    exact zs_istore X hd hx hz
  case lstore =>
    have hx : nx = pc + 2 := Nat.eq_of_beq_eq_true hi
    rw [hx, Nat.add_sub_cancel_left] at hd
    exact zs_lstore X hd hx hz
  case astore =>
    have hx : nx = pc + 2 := Nat.eq_of_beq_eq_true hi
    rw [hx, Nat.add_sub_cancel_left] at hd
    exact zs_astore X hd hx hz
  case iconst =>
    replace hi := Bool.and_eq_true_iff.mp hi
    have hx : nx = pc + 1 := Nat.eq_of_beq_eq_true hi.1
    rw [hx, Nat.add_sub_cancel_left] at hd
    exact zs_iconst X hd hx (of_decide_eq_true hi.2) hz
  case bipush =>
    replace hi := Bool.and_eq_true_iff.mp hi
    have hx : nx = pc + 2 := Nat.eq_of_beq_eq_true hi.1
    rw [hx, Nat.add_sub_cancel_left] at hd
    exact zs_bipush X hd hx (of_decide_eq_true hi.2) hz
  case sipush =>
    replace hi := Bool.and_eq_true_iff.mp hi
    have hx : nx = pc + 3 := Nat.eq_of_beq_eq_true hi.1
    rw [hx, Nat.add_sub_cancel_left] at hd
    exact zs_sipush X hd hx (of_decide_eq_true hi.2) hz
  case lconst =>
    replace hi := Bool.and_eq_true_iff.mp hi
    have hx : nx = pc + 1 := Nat.eq_of_beq_eq_true hi.1
    rw [hx, Nat.add_sub_cancel_left] at hd
    exact zs_lconst X hd hx (of_decide_eq_true hi.2) hz
  case iinc =>
    replace hi := Bool.and_eq_true_iff.mp hi
    have hx : nx = pc + 3 := Nat.eq_of_beq_eq_true hi.1
    rw [hx, Nat.add_sub_cancel_left] at hd
    exact zs_iinc X hd hx (of_decide_eq_true hi.2) hz
  case ldc =>
    replace hi := Bool.and_eq_true_iff.mp hi
    have hx : nx = pc + 2 := Nat.eq_of_beq_eq_true hi.1
    rw [hx, Nat.add_sub_cancel_left] at hd
    have hw := hi.2
    unfold zokC at hw
    split at hw
    · exact zs_ldc X hd hx rfl (zok_word hw rfl) hz
    · cases hw
  case ldc_w =>
    replace hi := Bool.and_eq_true_iff.mp hi
    have hx : nx = pc + 3 := Nat.eq_of_beq_eq_true hi.1
    rw [hx, Nat.add_sub_cancel_left] at hd
    have hw := hi.2
    unfold zokC at hw
    split at hw
    · exact zs_ldc_w X hd hx rfl (zok_word hw rfl) hz
    · cases hw
  case ldc2_w =>
    replace hi := Bool.and_eq_true_iff.mp hi
    have hx : nx = pc + 3 := Nat.eq_of_beq_eq_true hi.1
    rw [hx, Nat.add_sub_cancel_left] at hd
    have hw := hi.2
    unfold zokJ at hw
    split at hw
    · exact zs_ldc2_w X hd hx rfl (zok_word hw rfl) hz
    · cases hw
  case goto =>
    replace hi := Bool.and_eq_true_iff.mp hi
    have hx : nx = pc + 3 := Nat.eq_of_beq_eq_true hi.1
    rw [hx, Nat.add_sub_cancel_left] at hd
    refine zs_goto X hd (fun t ht => ?_) hz
    have hw := hi.2
    rw [ht] at hw
    exact of_decide_eq_true hw
  case ifCond cd off =>
    replace hi := Bool.and_eq_true_iff.mp hi
    have hx : nx = pc + 3 := Nat.eq_of_beq_eq_true hi.1
    rw [hx, Nat.add_sub_cancel_left] at hd
    have ht : ∀ t, hs = [t] → (pc : Int) + off = (t : Int) := fun t ht => by
      have hw := hi.2
      rw [ht] at hw
      exact of_decide_eq_true hw
    cases cd
    · exact zs_ifCond_eq X hd hx ht hz
    · exact zs_ifCond_ne X hd hx ht hz
    · exact zs_ifCond_lt X hd hx ht hz
    · exact zs_ifCond_ge X hd hx ht hz
    · exact zs_ifCond_gt X hd hx ht hz
    · exact zs_ifCond_le X hd hx ht hz
  case if_icmp cd off =>
    replace hi := Bool.and_eq_true_iff.mp hi
    have hx : nx = pc + 3 := Nat.eq_of_beq_eq_true hi.1
    rw [hx, Nat.add_sub_cancel_left] at hd
    have ht : ∀ t, hs = [t] → (pc : Int) + off = (t : Int) := fun t ht => by
      have hw := hi.2
      rw [ht] at hw
      exact of_decide_eq_true hw
    cases cd
    · exact zs_if_icmp_eq X hd hx ht hz
    · exact zs_if_icmp_ne X hd hx ht hz
    · exact zs_if_icmp_lt X hd hx ht hz
    · exact zs_if_icmp_ge X hd hx ht hz
    · exact zs_if_icmp_gt X hd hx ht hz
    · exact zs_if_icmp_le X hd hx ht hz
  case getfield =>
    replace hi := Bool.and_eq_true_iff.mp hi
    have hx : nx = pc + 3 := Nat.eq_of_beq_eq_true hi.1
    rw [hx, Nat.add_sub_cancel_left] at hd
    have hw := hi.2
    unfold zokF at hw
    split at hw
    · split at hw
      · rename_i C T N hc
        simp only [Bool.and_eq_true] at hw
        exact zs_getfield X hd hx hc (Nat.blt_eq.mp hw.1) (of_decide_eq_true hw.2.1) (zok_word hw.2.2.2 rfl) hz
      · cases hw
    · cases hw
  case putfield =>
    replace hi := Bool.and_eq_true_iff.mp hi
    have hx : nx = pc + 3 := Nat.eq_of_beq_eq_true hi.1
    rw [hx, Nat.add_sub_cancel_left] at hd
    have hw := hi.2
    unfold zokF at hw
    split at hw
    · split at hw
      · rename_i C T N hc
        simp only [Bool.and_eq_true] at hw
        exact zs_putfield X hd hx hc (Nat.blt_eq.mp hw.1) (of_decide_eq_true hw.2.1) (by simpa using hw.2.2.1) (zok_word hw.2.2.2 rfl) hz
      · cases hw
    · cases hw
  case getstatic =>
    replace hi := Bool.and_eq_true_iff.mp hi
    have hx : nx = pc + 3 := Nat.eq_of_beq_eq_true hi.1
    rw [hx, Nat.add_sub_cancel_left] at hd
    have hw := hi.2
    unfold zokS at hw
    split at hw
    · simp only [Bool.or_eq_true, Bool.and_eq_true] at hw
      refine zs_getstatic X hd hx ?_ hz
      rcases hw with hw | hw
      · exact Or.inl ⟨Nat.eq_of_beq_eq_true hw.1, zok_nest hw.2 rfl⟩
      · exact Or.inr ⟨Nat.eq_of_beq_eq_true hw.1, zok_nest hw.2 rfl⟩
    · cases hw
  case ireturn =>
    refine zOn_3 ?_
    replace hz : zrI rt L S h = some o := hz
    unfold zrI at hz
    split at hz <;> cases hz <;> exact Nat.le_of_ble_eq_true rfl
  case lreturn =>
    refine zOn_3 ?_
    replace hz : zrL rt L S h = some o := hz
    unfold zrL at hz
    split at hz <;> cases hz <;> exact Nat.le_of_ble_eq_true rfl
  case return_ =>
    refine zOn_3 ?_
    replace hz : zrV rt L S h = some o := hz
    unfold zrV at hz
    split at hz <;> cases hz <;> exact Nat.le_of_ble_eq_true rfl
  case tableswitch =>
    refine zOn_3 ?_
    replace hz : zswi L S h = some o := hz
    unfold zswi at hz
    split at hz <;> cases hz <;> exact Nat.le_of_ble_eq_true rfl
  case invokevirtual =>
    refine zOn_3 ?_
    replace hz : zinv true hs L S h = some o := hz
    rw [zinv_tag hz]
    decide
  case invokestatic =>
    replace hi := Bool.and_eq_true_iff.mp hi
    have hx : nx = pc + 3 := Nat.eq_of_beq_eq_true hi.1
    rw [hx, Nat.add_sub_cancel_left] at hd
    have hw := hi.2
    have hz2 : zisv hs L S h = some o := hz
    match hs, hw, hz, hz2 with
    | [q, na, rk, lv, ci, pl, nest], hw, hz, hz2 =>
      unfold zokU at hw
      simp only [Bool.and_eq_true] at hw
      have hq : q < 251 := Nat.blt_eq.mp hw.1
      have hb : Nat.ble 990 q = false := by
        cases hc : Nat.ble 990 q with
        | false => rfl
        | true => exact absurd (Nat.le_of_ble_eq_true hc) (by omega)
      unfold zisv at hz2
      dsimp only at hz2
      rw [hb] at hz2
      refine zOn_3 ?_
      rw [zinv_tag (show zinv false [q, na, rk, lv, ci, pl, nest] L S h = some o from hz2)]
      decide
    | [q, k0, pl], hw, hz, _ =>
      unfold zokU at hw
      simp only [Bool.and_eq_true] at hw
      cases Nat.eq_of_beq_eq_true hw.1
      exact zs_copy X hd hx ⟨zok_word hw.2 rfl, zw_copy⟩ hz
    | [q, pl], hw, hz, _ =>
      unfold zokU at hw
      simp only [Bool.or_eq_true, Bool.and_eq_true] at hw
      rcases hw with hw | hw | hw | hw | hw
      · cases Nat.eq_of_beq_eq_true hw.1
        exact zs_maxI X hd hx (zok_word hw.2 rfl) hz
      · cases Nat.eq_of_beq_eq_true hw.1
        exact zs_minI X hd hx (zok_word hw.2 rfl) hz
      · cases Nat.eq_of_beq_eq_true hw.1
        exact zs_absI X hd hx (zok_word hw.2 rfl) hz
      · cases Nat.eq_of_beq_eq_true hw.1
        exact zs_maxL X hd hx (zok_word hw.2 rfl) hz
      · cases Nat.eq_of_beq_eq_true hw.1
        exact zs_minL X hd hx (zok_word hw.2 rfl) hz
end ZS5
