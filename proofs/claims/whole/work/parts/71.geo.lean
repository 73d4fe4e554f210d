/-! Points with whole coordinates: their orientations. -/
def dt (X Y : Nat → Int) (a b c : Nat) : Int := (X b - X a) * (Y c - Y a) - (Y b - Y a) * (X c - X a)
def oXY (X Y : Nat → Int) (a b c : Nat) : Bool := decide (0 < dt X Y a b c)
/-- no three of the first n on a line -/
def GP (X Y : Nat → Int) (n : Nat) : Prop := ∀ a b c, a < n → b < n → c < n → a ≠ b → a ≠ c → b ≠ c → dt X Y a b c ≠ 0
theorem mul_same {x y : Int} (hx : x ≠ 0) (hy : y ≠ 0) (h : decide (0 < x) = decide (0 < y)) : 0 < x * y := by
  by_cases p : 0 < x
  · rw [decide_eq_true p] at h
    exact Int.mul_pos p (of_decide_eq_true h.symm)
  · rw [decide_eq_false p] at h
    have q := of_decide_eq_false h.symm
    exact Int.mul_pos_of_neg_of_neg (by omega) (by omega)
theorem mul_diff {x y : Int} (hx : x ≠ 0) (hy : y ≠ 0) (h : decide (0 < x) ≠ decide (0 < y)) : x * y < 0 := by
  by_cases p : 0 < x
  · have q : ¬ 0 < y := fun q => h (by rw [decide_eq_true p, decide_eq_true q])
    exact Int.mul_neg_of_pos_of_neg p (by omega)
  · have q : 0 < y := by
      apply Classical.byContradiction
      intro q
      exact h (by rw [decide_eq_false p, decide_eq_false q])
    exact Int.mul_neg_of_neg_of_pos (by omega) q
section
variable {X Y : Nat → Int} {n : Nat}
theorem dt_rot (a b c : Nat) : dt X Y b c a = dt X Y a b c := by unfold dt; grind
theorem dt_sw (a b c : Nat) : dt X Y b a c = - dt X Y a b c := by unfold dt; grind
theorem dt_4 (a b c d : Nat) : dt X Y a b c - dt X Y a b d + dt X Y a c d - dt X Y b c d = 0 := by unfold dt; grind
theorem dt_5 (t a b c d : Nat) : dt X Y t a b * dt X Y t c d - dt X Y t a c * dt X Y t b d + dt X Y t a d * dt X Y t b c = 0 := by unfold dt; grind
theorem cc_xy (h : GP X Y n) : CC (fun x => x < n) (oXY X Y) := by
  refine ⟨?_, ?_, ?_⟩
  · intro a b c pa pb pc nab nac nbc
    have h0 := h a b c pa pb pc nab nac nbc
    refine ⟨?_, ?_⟩
    · unfold oXY; rw [dt_rot]
    · unfold oXY
      rw [dt_sw]
      by_cases q : 0 < dt X Y a b c
      · rw [decide_eq_true q, decide_eq_false (by omega)]; rfl
      · rw [decide_eq_false q, decide_eq_true (by omega)]; rfl
  · intro a b c d pa pb pc pd nab nac nad nbc nbd ncd
    have h1 := h a b c pa pb pc nab nac nbc
    have h2 := h a b d pa pb pd nab nad nbd
    have h3 := h a c d pa pc pd nac nad ncd
    have h4 := h b c d pb pc pd nbc nbd ncd
    have e := dt_4 (X := X) (Y := Y) a b c d
    unfold oXY ccFA
    by_cases q1 : 0 < dt X Y a b c <;> by_cases q2 : 0 < dt X Y a b d <;> by_cases q3 : 0 < dt X Y a c d <;> by_cases q4 : 0 < dt X Y b c d <;> simp [q1, q2, q3, q4] <;> omega
  · intro t a b c d pt pa pb pc pd nta ntb ntc ntd nab nac nad nbc nbd ncd
    have h1 := h t a b pt pa pb nta ntb nab
    have h2 := h t a c pt pa pc nta ntc nac
    have h3 := h t a d pt pa pd nta ntd nad
    have h4 := h t b c pt pb pc ntb ntc nbc
    have h5 := h t b d pt pb pd ntb ntd nbd
    have h6 := h t c d pt pc pd ntc ntd ncd
    have e := dt_5 (X := X) (Y := Y) t a b c d
    apply bt
    intro hf
    unfold ccFG oXY at hf
    simp only [Bool.not_eq_false', Bool.or_eq_true, Bool.and_eq_true, beq_iff_eq, bne_iff_ne] at hf
    rcases hf with ⟨⟨k1, k2⟩, k3⟩ | ⟨⟨k1, k2⟩, k3⟩
    · have := mul_same h1 h6 k1
      have := mul_diff h2 h5 k2
      have := mul_same h3 h4 k3
      omega
    · have := mul_diff h1 h6 k1
      have := mul_same h2 h5 k2
      have := mul_diff h3 h4 k3
      omega
/-- a lies ahead of b -/
def ahd (X Y : Nat → Int) (a b : Nat) : Prop := X a < X b ∨ (X a = X b ∧ Y a < Y b)
theorem ahd_tr {a b c : Nat} (h : ahd X Y a b) (k : ahd X Y b c) : ahd X Y a c := by
  unfold ahd at *
  omega
theorem ahd_irr {a : Nat} : ¬ ahd X Y a a := by unfold ahd; omega
theorem ahd_tot {a b : Nat} (h : X a ≠ X b ∨ Y a ≠ Y b) : ahd X Y a b ∨ ahd X Y b a := by unfold ahd; omega
theorem half_tr {ax ay bx b_y cx cy : Int} (ha : ax < 0 ∨ (ax = 0 ∧ ay < 0)) (hb : bx < 0 ∨ (bx = 0 ∧ b_y < 0)) (hc : cx < 0 ∨ (cx = 0 ∧ cy < 0)) (h1 : 0 < ax * b_y - ay * bx) (h2 : 0 < bx * cy - b_y * cx) (h3 : ax * cy - ay * cx ≠ 0) : 0 < ax * cy - ay * cx := by
  have id : (ax * cy - ay * cx) * bx = (ax * b_y - ay * bx) * cx + (bx * cy - b_y * cx) * ax := by grind
  rcases hb with hb | ⟨hb, hb2⟩
  · apply Classical.byContradiction
    intro hn
    have l1 : 0 < (ax * cy - ay * cx) * bx := Int.mul_pos_of_neg_of_neg (by omega) hb
    have l2 : (ax * b_y - ay * bx) * cx ≤ 0 := Int.mul_nonpos_of_nonneg_of_nonpos (by omega) (by omega)
    have l3 : (bx * cy - b_y * cx) * ax ≤ 0 := Int.mul_nonpos_of_nonneg_of_nonpos (by omega) (by omega)
    omega
  · subst hb
    exfalso
    have l1 : 0 < ax * b_y := by simpa using h1
    have l2 : 0 < - (b_y * cx) := by simpa using h2
    have l3 : 0 ≤ b_y * cx := Int.mul_nonneg_of_nonpos_of_nonpos (by omega) (by omega)
    omega
theorem ext_xy (h : GP X Y n) {p : Nat} {S : List Nat} (hp : p < n) (hS : ∀ a, a ∈ S → a < n ∧ a ≠ p ∧ ahd X Y a p) : Ext (oXY X Y) p S := by
  intro a b c ha hb hc nab nac nbc h1 h2
  obtain ⟨an, ap, aa⟩ := hS a ha
  obtain ⟨bn, bp, ab⟩ := hS b hb
  obtain ⟨cn, cp, ac⟩ := hS c hc
  have k1 : 0 < dt X Y p a b := of_decide_eq_true h1
  have k2 : 0 < dt X Y p b c := of_decide_eq_true h2
  have k3 := h p a c hp an cn ap.symm cp.symm nac
  refine decide_eq_true ?_
  unfold dt at *
  unfold ahd at aa ab ac
  exact half_tr (by omega) (by omega) (by omega) k1 k2 k3
end
/-- a row with the same members in falling order -/
theorem ex_sorted {R : Nat → Nat → Prop} (irr : ∀ x, ¬ R x x) (tr : ∀ x y z, R x y → R y z → R x z) : ∀ (k : Nat) (s : List Nat), s.length ≤ k → s.Nodup → (∀ x y, x ∈ s → y ∈ s → x ≠ y → R x y ∨ R y x) → ∃ l : List Nat, l.Nodup ∧ l.length = s.length ∧ (∀ x, x ∈ l ↔ x ∈ s) ∧ l.Pairwise (fun x y => R y x)
  | 0, s, hk, nd, tot => ⟨[], List.nodup_nil, by
      have : s = [] := List.length_eq_zero_iff.mp (by omega)
      rw [this], fun x => by
      have : s = [] := List.length_eq_zero_iff.mp (by omega)
      rw [this], List.Pairwise.nil⟩
  | k + 1, s, hk, nd, tot => by
    by_cases he : s = []
    · subst he
      exact ⟨[], List.nodup_nil, rfl, fun x => Iff.rfl, List.Pairwise.nil⟩
    · have hex : ∃ x, x ∈ s ∧ True := by
        cases s with
        | nil => exact (he rfl).elim
        | cons a r => exact ⟨a, List.mem_cons_self, trivial⟩
      obtain ⟨m, hm, _, hmax⟩ := ex_min (X := fun _ => True) (R := fun x y => R y x) (fun x _ => irr x) (fun x y z _ _ _ r q => tr z y x q r) s hex
      have hlen := List.length_erase_of_mem hm
      have hpos : 0 < s.length := List.length_pos_of_mem hm
      obtain ⟨l, l1, l2, l3, l4⟩ := ex_sorted irr tr k (s.erase m) (by omega) (nd.erase m) (fun x y hx hy n => tot x y (List.mem_of_mem_erase hx) (List.mem_of_mem_erase hy) n)
      have hml : m ∉ l := fun q => by
        have := (l3 m).mp q
        exact (nd.not_mem_erase) this
      refine ⟨m :: l, List.nodup_cons.mpr ⟨hml, l1⟩, by rw [List.length_cons, l2, hlen]; omega, fun x => ?_, List.Pairwise.cons (fun y hy => ?_) l4⟩
      · constructor
        · intro hx
          rcases List.mem_cons.mp hx with e | e
          · rw [e]; exact hm
          · exact List.mem_of_mem_erase ((l3 x).mp e)
        · intro hx
          by_cases e : x = m
          · rw [e]; exact List.mem_cons_self
          · exact List.mem_cons_of_mem _ ((l3 x).mpr ((List.mem_erase_of_ne e).mpr hx))
      · have hys := (l3 y).mp hy
        have hy2 := List.mem_of_mem_erase hys
        have n : y ≠ m := fun e => hml (e ▸ hy)
        rcases tot y m hy2 hm n with q | q
        · exact q
        · exact (hmax y hy2 trivial q).elim
