theorem yok_law_at {i : Nat} {q : zEn} (h : yLaw[i]? = some q) : yokE "MarkedSweepsLaw" code q = true := List.all_eq_true.mp yok_law q (List.mem_of_getElem? h)
/-- THE LAW, from its entry, out of what is wanted of the abstract machine -/
theorem whole_of (hall : ∀ t, t < zNm → zokM t = true) (hW : zHolds) {p : Program} {e : Env} {s : State} {m : MethodId} {below : List Frame} {meth : Method} {c : Code} (l : Launch) {b L : Nat} {xs : Nat → Int32} (hL : L ≤ 3072) (C0 : lw_At p s m meth c b L xs) : W p l e room_1 s m #[Value.ref b] below meth c s.heap [] 0 0 (lw_Z below #[Value.ref b] s) (entryFrame m ([Value.ref b] : List Value).toArray 4) := by
  obtain ⟨E, hE1, hE2, hYF, hYR⟩ := zs_start hL C0
  obtain ⟨x0, hx0⟩ : ∃ x0 : Nat → Int32, x0 = (fun j => cond (Nat.beq j 5000) (Int32.ofNat L) (xs j)) := ⟨_, rfl⟩
  rw [← hx0] at hYR
  have h5 : (x0 5000).toInt = L := by
    rw [hx0]
    show (Int32.ofNat L).toInt = L
    exact Int32.toInt_ofNat_of_lt (by omega)
  obtain ⟨g', hz⟩ := hW x0 (by rw [h5]; omega) (by rw [h5]; omega)
  obtain ⟨st1, r1, n1, z1, r2⟩ := yMake_parts
  have hend := yFin_ok
  obtain ⟨st2, hst2⟩ : ∃ st2 : yS, st2 = yFin := ⟨yFin, rfl⟩
  rw [← hst2] at hz hend r2
  have hloop := zl_loop (l := l) (e := e) (below := below) hall hE2 hYF.1 C0 hz
  have hN2 : st2.1 = 350 := by
    unfold yEnd at hend
    rw [Bool.and_eq_true] at hend
    exact Nat.eq_of_beq_eq_true hend.1
  obtain ⟨d4, d12, k4, k12, hcum⟩ := ylw
  have X : yX p room_1 s m #[Value.ref b] meth c code 4 "MarkedSweepsLaw" E := ⟨C0.1, C0.2.1, C0.2.2.2.1, C0.2.2.2.2.1, fun w hw => C0.2.2.2.2.2.1 w (zTG_sub hw), hYF, Nat.le_of_ble_eq_true rfl, Nat.le_of_ble_eq_true rfl⟩
  have hsl : ∀ n, n ≤ 350 → zcum n - zcum 3 ≤ room_1.slots := fun n hn => by
    have := zcum_le hn
    show _ ≤ 7302250
    omega
  have hcl : ∀ n, n ≤ 350 → n - 3 ≤ room_1.cells := fun n hn => by
    show _ ≤ 600000
    omega
  have f18 : yN p l e room_1 s m #[Value.ref b] below meth c (lw_Z below #[Value.ref b] s) E x0 3 4 18 [(3, .int 0), (2, .ref 250), (1, .ref 3), (0, .ref 0)] [] st2 := by
    intro H locs ls hR hf hl
    refine W.widen (k := 600000) (n := 7302250) (by rw [hN2]; omega) (by
      have := hsl 350 (Nat.le_refl _)
      rw [hN2]
      exact this) ?_
    exact hloop H locs ls (y_to_z hend hR) hf (lv_sub hl [3, 2, 1, 0] rfl)
  have f17 := ys_all (l := l) (e := e) (below := below) (Q := lw_Z below #[Value.ref b] s) (N0 := 3) (x0 := x0) (pc := 17) (nx := 18) (ins := .istore_n 3) (hs := []) (v := .null) (L := [(2, .ref 250), (1, .ref 3), (0, .ref 0)]) (S := [.int 0]) (st := st2) (o := (18, [(3, .int 0), (2, .ref 250), (1, .ref 3), (0, .ref 0)], [], st2)) X (fun i h => by cases h) (yok_law_at (i := 9) rfl) rfl (by rw [hN2]; decide) (hcl _ (by rw [hN2]; exact Nat.le_refl _)) (hsl _ (by rw [hN2]; exact Nat.le_refl _)) zC_big f18
  have f16 := ys_all (l := l) (e := e) (below := below) (Q := lw_Z below #[Value.ref b] s) (N0 := 3) (x0 := x0) (pc := 16) (nx := 17) (ins := .iconst 0) (hs := []) (v := .int 0) (L := [(2, .ref 250), (1, .ref 3), (0, .ref 0)]) (S := []) (st := st2) (o := (17, [(2, .ref 250), (1, .ref 3), (0, .ref 0)], [.int 0], st2)) X (fun i h => by cases h) (yok_law_at (i := 8) rfl) rfl (by rw [hN2]; decide) (hcl _ (by rw [hN2]; exact Nat.le_refl _)) (hsl _ (by rw [hN2]; exact Nat.le_refl _)) zC_big f17
  have f15 := ys_all (l := l) (e := e) (below := below) (Q := lw_Z below #[Value.ref b] s) (N0 := 3) (x0 := x0) (pc := 15) (nx := 16) (ins := .astore_n 2) (hs := []) (v := .null) (L := [(1, .ref 3), (0, .ref 0)]) (S := [.ref 250]) (st := st2) (o := (16, [(2, .ref 250), (1, .ref 3), (0, .ref 0)], [], st2)) X (fun i h => by cases h) (yok_law_at (i := 7) rfl) rfl (by rw [hN2]; decide) (hcl _ (by rw [hN2]; exact Nat.le_refl _)) (hsl _ (by rw [hN2]; exact Nat.le_refl _)) zC_big f16
  have hq2 : st1.1 + 1 ≤ st2.1 := by rw [hN2, n1]; decide
  rw [n1] at r2 hq2
  have f12 := ys_ctor (l := l) (e := e) (below := below) (Q := lw_Z below #[Value.ref b] s) (N0 := 3) (x0 := x0) (i := 12) (pc := 12) (q := 12) (a := 250) (lev := 1000) (pl := 1121) (nest := 0) (L := [(1, .ref 3), (0, .ref 0)]) (r := [.ref 250]) (st := (251, st1.2)) (st2 := st2) X d12 (by decide) k12 (yMet_of (ysound l E x0 1000) (by decide) r2) (by decide) (by show 3 ≤ 251; decide) (by show 251 ≤ _; exact hq2) (Nat.le_of_ble_eq_true rfl) (Nat.le_of_ble_eq_true rfl) (hcl _ (by rw [hN2]; exact Nat.le_refl _)) (hsl _ (by rw [hN2]; exact Nat.le_refl _)) f15
  have f11 := ys_all (l := l) (e := e) (below := below) (Q := lw_Z below #[Value.ref b] s) (N0 := 3) (x0 := x0) (pc := 11) (nx := 12) (ins := .dup) (hs := []) (v := .null) (L := [(1, .ref 3), (0, .ref 0)]) (S := [.ref 250]) (st := (251, st1.2)) (o := (12, [(1, .ref 3), (0, .ref 0)], [.ref 250, .ref 250], (251, st1.2))) X (fun i h => by cases h) (yok_law_at (i := 5) rfl) rfl (by show 3 ≤ 251; decide) (hcl 251 (by decide)) (hsl 251 (by decide)) zC_big f12
  have f8 := ys_all (l := l) (e := e) (below := below) (Q := lw_Z below #[Value.ref b] s) (N0 := 3) (x0 := x0) (pc := 8) (nx := 11) (ins := .new 10) (hs := [12, 30, 1119, 1120, 107]) (v := .null) (L := [(1, .ref 3), (0, .ref 0)]) (S := []) (st := (250, st1.2)) (o := (11, [(1, .ref 3), (0, .ref 0)], [.ref 250], (251, st1.2))) X (fun i h => by cases h) (yok_law_at (i := 4) rfl) rfl (by show 3 ≤ 250; decide) (hcl 251 (by decide)) (hsl 251 (by decide)) zC_big f11
  have e1 : st1 = (250, st1.2) := by rw [← n1]
  rw [← e1] at f8
  have f7 := ys_all (l := l) (e := e) (below := below) (Q := lw_Z below #[Value.ref b] s) (N0 := 3) (x0 := x0) (pc := 7) (nx := 8) (ins := .astore_n 1) (hs := []) (v := .null) (L := [(0, .ref 0)]) (S := [.ref 3]) (st := st1) (o := (8, [(1, .ref 3), (0, .ref 0)], [], st1)) X (fun i h => by cases h) (yok_law_at (i := 3) rfl) rfl (by rw [n1]; decide) (hcl _ (by rw [n1]; decide)) (hsl _ (by rw [n1]; decide)) zC_big f8
  have f4 := ys_ctor (l := l) (e := e) (below := below) (Q := lw_Z below #[Value.ref b] s) (N0 := 3) (x0 := x0) (i := 9) (pc := 4) (q := 11) (a := 3) (lev := 1000) (pl := 115) (nest := 0) (L := [(0, .ref 0)]) (r := [.ref 3]) (st := (4, [], [])) (st2 := st1) X d4 (by decide) k4 (yMet_of (ysound l E x0 1000) (by decide) r1) (by decide) (by show 3 ≤ 4; decide) (by show 4 ≤ _; rw [n1]; decide) (Nat.le_of_ble_eq_true rfl) (Nat.le_of_ble_eq_true rfl) (hcl _ (by rw [n1]; decide)) (hsl _ (by rw [n1]; decide)) f7
  have f3 := ys_all (l := l) (e := e) (below := below) (Q := lw_Z below #[Value.ref b] s) (N0 := 3) (x0 := x0) (pc := 3) (nx := 4) (ins := .dup) (hs := []) (v := .null) (L := [(0, .ref 0)]) (S := [.ref 3]) (st := (4, [], [])) (o := (4, [(0, .ref 0)], [.ref 3, .ref 3], (4, [], []))) X (fun i h => by cases h) (yok_law_at (i := 1) rfl) rfl (by show 3 ≤ 4; decide) (hcl 4 (by decide)) (hsl 4 (by decide)) zC_big f4
  have f0 := ys_all (l := l) (e := e) (below := below) (Q := lw_Z below #[Value.ref b] s) (N0 := 3) (x0 := x0) (pc := 0) (nx := 3) (ins := .new 7) (hs := [11, 13, 113, 114, 95]) (v := .null) (L := [(0, .ref 0)]) (S := []) (st := (3, [], [])) (o := (3, [(0, .ref 0)], [.ref 3], (4, [], []))) X (fun i h => by cases h) (yok_law_at (i := 0) rfl) rfl (by show 3 ≤ 3; decide) (hcl 4 (by decide)) (hsl 4 (by decide)) zC_big f3
  have hl := lv_entry ([.ref b]) (n := 4) (Nat.le_of_ble_eq_true rfl)
  rw [lg_entry_eq]
  refine f0 s.heap [] _ hYR (fun q hq => nomatch hq) ?_
  have e0 : zl E [(0, .ref 0)] = [(0, .ref b)] := by
    rw [← hE1]
    rfl
  rw [e0]
  exact hl
