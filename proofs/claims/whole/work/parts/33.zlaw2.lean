/-- WHAT IS WANTED of the abstract machine: at every script the law's loop ends with true -/
def zHolds : Prop := ∀ x0 : Nat → Int32, 0 ≤ (x0 5000).toInt → (x0 5000).toInt ≤ 3072 → ∃ g : zIJ, zev mL_law 18 [.ref 0, .ref 3, .ref 250, .int 0] (yg x0 yFin.2.2) = some (some (.int 1), g)
section ZL
variable {p : Program} {l : Launch} {e : Env} {s : State} {m : MethodId} {below : List Frame} {meth : Method} {c : Code} {E : zE} {b L : Nat} {xs x0 : Nat → Int32}
/-- the loop, from its head -/
theorem zl_loop (hall : ∀ t, t < zNm → zokM t = true) (hE : E.2.2.2 = s.heap) (hF : zF E s) (C0 : lw_At p s m meth c b L xs) {h g' : zIJ} (hz : zev mL_law 18 [.ref 0, .ref 3, .ref 250, .int 0] h = some (some (.int 1), g')) :
    zN p l e room_1 s m #[Value.ref b] below meth c (lw_Z below #[Value.ref b] s) E 600000 7302250 4 18 [(0, .ref 0), (1, .ref 3), (2, .ref 250), (3, .int 0)] [] h := by
  obtain ⟨hx, hb, hr, hml, hown, hts, hX, hbl, hlocks, hgv⟩ := C0
  have X : zX p room_1 600000 7302250 s m #[Value.ref b] meth c code (zMs mL_law).1 "MarkedSweepsLaw" (zMs mL_law).2.1 E := by
    rw [zMs_law]
    exact ⟨hx, hb, hml, hown, fun w hw => hts w (zTG_sub hw), hF, hlocks, hr, Nat.le_of_ble_eq_true rfl, Nat.le_of_ble_eq_true rfl, Nat.le_refl _, Nat.le_refl _⟩
  obtain ⟨F, hrun⟩ := zevM_run hz
  have hn := zrun_body (l := l) (e := e) (below := below) (Q := lw_Z below #[Value.ref b] s) (mi := mL_law) (lev := 43) (x := (some (.int 1), g')) (by rw [zMs_law]; exact zok_law1.1) X (Nat.le_of_ble_eq_true rfl) (Nat.le_of_ble_eq_true rfl) hall (by rw [zMs_law]; exact fun q hq => List.all_eq_true.mp zok_law q hq) (fun vs _ => by rw [zMs_law]; exact zlev_c (by decide) vs)
    (fun F t as h x hx ht _ => zsound l E hall _ t as h x F (Nat.lt_succ_self _) ht hx) ?_ F 17 [0, 1, 2, 3] [.ref 0, .ref 3, .ref 250, .int 0] [(0, .ref 0), (1, .ref 3), (2, .ref 250), (3, .int 0)] h (by rw [zMs_law]; exact zok_law1.2) rfl hrun
  · have e4 : (zMs mL_law).1 = 4 := by rw [zMs_law]; rfl
    rw [e4] at hn
    exact hn
  · intro ins pc nx hs v L S h b2 t2 as2 S' L' h' hok hz hb2 hxe
    have hlow : ¬ zlow ins := fun hl => by
      have := zex_tag hl hz
      exact absurd this (by show ¬ 4 < 3; decide)
    unfold zokE at hok
    rw [Bool.and_eq_true] at hok
    have hd0 : decode code pc = .ok (ins, nx - pc) := of_decide_eq_true hok.1
    have hi : zokI "MarkedSweepsLaw" pc ins nx hs v = true := hok.2
    clear hok
    rw [zMs_law] at hz ⊢
    cases ins
    all_goals try (exact absurd trivial hlow)
    case invokevirtual => exact absurd (show (4 : Nat) = 3 from zinv_tag hz) (by decide)
    case invokestatic =>
      have hz2 : zisv hs L S h = some (4, b2, t2, as2, L', S', h') := hz
      unfold zisv at hz2
      split at hz2
      · rename_i q w
        cases hb9 : Nat.ble 990 q with
        | true =>
          rw [hb9] at hz2
          exact absurd (show (4 : Nat) = 0 from zbuilt_tag hz2) (by decide)
        | false =>
          rw [hb9] at hz2
          exact absurd (show (4 : Nat) = 3 from zinv_tag hz2) (by decide)
      · cases hz2
    case tableswitch => exact absurd (show (4 : Nat) = 5 from zswi_tag hz) (by decide)
    case ireturn =>
      have hnx : nx = pc + 1 := Nat.eq_of_beq_eq_true hi
      rw [hnx, Nat.add_sub_cancel_left] at hd0
      have hz2 : zrI (some .boolean) L S h = some (4, b2, t2, as2, L', S', h') := hz
      unfold zrI at hz2
      split at hz2
      · rename_i q2
        cases q2
      · rename_i x q1
        cases hz2
        have hx1 : x = 1 := by
          have := congrArg Prod.fst hxe
          have : some (Value.int 1) = some (Value.int x) := this
          exact (Value.int.inj (Option.some.inj this)).symm
        subst hx1
        intro H locs ls hR hf hl
        refine va_forget (fun q hq => by rw [← hE]; exact hf q hq) ?_
        exact lw_ret hx hb hr hlocks hd0
      · cases hz2
    case lreturn =>
      have hz2 : zrL (some .boolean) L S h = some (4, b2, t2, as2, L', S', h') := hz
      unfold zrL at hz2
      split at hz2
      · rename_i q2
        cases q2
      · cases hz2
    case return_ =>
      have hz2 : zrV (some .boolean) L S h = some (4, b2, t2, as2, L', S', h') := hz
      unfold zrV at hz2
      split at hz2
      · rename_i q2
        cases q2
      · cases hz2
end ZL
