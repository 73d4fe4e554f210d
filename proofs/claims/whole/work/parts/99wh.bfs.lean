/-! Searching: the fewest flips, in whatever order the neighbours come. -/
def Rch (Nb : Nat → Nat → Prop) (k : Nat) : Nat → Nat → Prop
  | 0, x => x = k
  | d + 1, x => ∃ y, Rch Nb k d y ∧ Nb y x
def BI (Nb : Nat → Nat → Prop) (N k : Nat) (dz q : Nat → Nat) (m at' : Nat) : Prop := (at' ≤ m ∧ m ≤ N) ∧ (∀ i, i < m → q i < N ∧ dz (q i) ≠ 0) ∧ (∀ i j, i < m → j < m → q i = q j → i = j) ∧ (∀ x, x < N → dz x ≠ 0 → ∃ i, i < m ∧ q i = x) ∧ (0 < m ∧ q 0 = k ∧ dz k = 1) ∧ (∀ i j, i ≤ j → j < m → dz (q i) ≤ dz (q j)) ∧ (at' < m → ∀ i, i < m → dz (q i) ≤ dz (q at') + 1) ∧ (∀ i, i < m → Rch Nb k (dz (q i) - 1) (q i) ∧ dz (q i) ≤ i + 1) ∧ ∀ i, i < at' → ∀ y, Nb (q i) y → dz y ≠ 0 ∧ dz y ≤ dz (q i) + 1
def Ans (Nb : Nat → Nat → Prop) (k l : Nat) (z : Nat) : Prop := (z = 0 ∧ ∀ d, ¬ Rch Nb k d l) ∨ (z ≠ 0 ∧ Rch Nb k (z - 1) l ∧ ∀ d, d + 1 < z → ¬ Rch Nb k d l)
theorem ans_uq {Nb : Nat → Nat → Prop} {k l z z' : Nat} (h : Ans Nb k l z) (h' : Ans Nb k l z') : z = z' := by
  rcases h with ⟨h1, h2⟩ | ⟨h1, h2, h3⟩
  · rcases h' with ⟨k1, _⟩ | ⟨_, k2, _⟩
    · omega
    · exact absurd k2 (h2 _)
  · rcases h' with ⟨_, k2⟩ | ⟨k1, k2, k3⟩
    · exact absurd h2 (k2 _)
    · rcases Nat.lt_trichotomy z z' with y | y | y
      · exact absurd h2 (k3 _ (by omega))
      · exact y
      · exact absurd k2 (h3 _ (by omega))
section
variable {Nb : Nat → Nat → Prop} {N k : Nat} {dz q : Nat → Nat} {m at' : Nat}
def updN (f : Nat → Nat) (y v : Nat) : Nat → Nat := fun x => if x = y then v else f x
theorem updN_y (f : Nat → Nat) (y v : Nat) : updN f y v y = v := if_pos rfl
theorem updN_o {f : Nat → Nat} {y v x : Nat} (h : x ≠ y) : updN f y v x = f x := if_neg h
theorem bi_start (hk : k < N) : BI Nb N k (updN (fun _ => 0) k 1) (fun _ => k) 1 0 := by
  have kk : updN (fun _ => 0) k 1 k = 1 := updN_y _ _ _
  refine ⟨⟨by omega, by omega⟩, fun i hi => ⟨hk, ?_⟩, fun i j hi hj _ => by omega, fun x hx hz => ?_, ⟨by omega, rfl, kk⟩, fun i j _ _ => Nat.le_refl _, fun _ i _ => Nat.le_succ _, fun i hi => ⟨?_, ?_⟩, fun i hi => by omega⟩
  · show updN (fun _ => 0) k 1 k ≠ 0
    rw [kk]; decide
  · refine ⟨0, by omega, ?_⟩
    by_cases e : x = k
    · exact e.symm
    · rw [updN_o e] at hz; exact absurd rfl hz
  · show Rch Nb k (updN (fun _ => 0) k 1 k - 1) k
    rw [kk]; rfl
  · show updN (fun _ => 0) k 1 k ≤ i + 1
    rw [kk]; omega
theorem bi_lt (h : BI Nb N k dz q m at') {y : Nat} (hy : y < N) (hz : dz y = 0) : m < N := by
  obtain ⟨⟨h1, h2⟩, h3, h4, _⟩ := h
  refine Nat.lt_of_le_of_ne h2 (fun e => ?_)
  obtain ⟨i, hi, ei⟩ := inj_surj N q (fun i hi => (h3 i (by omega)).1) (fun i j hi hj => h4 i j (by omega) (by omega)) y hy
  have := (h3 i (by omega)).2
  rw [ei] at this
  exact this hz
theorem bi_meet (h : BI Nb N k dz q m at') (ha : at' < m) {y : Nat} (hy : y < N) (hn : Nb (q at') y) (hz : dz y = 0) : BI Nb N k (updN dz y (dz (q at') + 1)) (updN q m y) (m + 1) at' ∧ (∀ x, dz x ≠ 0 → updN dz y (dz (q at') + 1) x = dz x) ∧ (∀ i, i < m → updN q m y i = q i) := by
  have lt := bi_lt h hy hz
  obtain ⟨⟨h1, h2⟩, h3, h4, h5, ⟨h6, h7, h8⟩, h9, h10, h11, h12⟩ := h
  have dk : ∀ x, dz x ≠ 0 → updN dz y (dz (q at') + 1) x = dz x := fun x hx => updN_o (fun e => by rw [e] at hx; exact hx hz)
  have qk : ∀ i, i < m → updN q m y i = q i := fun i hi => updN_o (by omega)
  have dq : ∀ i, i < m → updN dz y (dz (q at') + 1) (updN q m y i) = dz (q i) := fun i hi => by rw [qk i hi, dk _ (h3 i hi).2]
  have dm : updN dz y (dz (q at') + 1) (updN q m y m) = dz (q at') + 1 := by rw [updN_y, updN_y]
  refine ⟨⟨⟨by omega, by omega⟩, fun i hi => ?_, fun i j hi hj e => ?_, fun x hx hx0 => ?_, ⟨by omega, by rw [qk 0 h6, h7], by rw [dk k (by rw [h8]; decide), h8]⟩, fun i j hij hj => ?_, fun _ i hi => ?_, fun i hi => ?_, fun i hi z hz2 => ?_⟩, dk, qk⟩
  · by_cases e : i = m
    · rw [e, dm, updN_y]; exact ⟨hy, by omega⟩
    · rw [dq i (by omega), qk i (by omega)]; exact h3 i (by omega)
  · by_cases e1 : i = m
    · by_cases e2 : j = m
      · omega
      · rw [e1, updN_y, qk j (by omega)] at e
        have := (h3 j (by omega)).2
        rw [← e] at this
        exact absurd hz this
    · by_cases e2 : j = m
      · rw [e2, updN_y, qk i (by omega)] at e
        have := (h3 i (by omega)).2
        rw [e] at this
        exact absurd hz this
      · rw [qk i (by omega), qk j (by omega)] at e
        exact h4 i j (by omega) (by omega) e
  · by_cases e : x = y
    · exact ⟨m, by omega, by rw [updN_y, e]⟩
    · rw [updN_o e] at hx0
      obtain ⟨i, hi, ei⟩ := h5 x hx hx0
      exact ⟨i, by omega, by rw [qk i hi, ei]⟩
  · by_cases e2 : j = m
    · rw [e2, dm]
      by_cases e1 : i = m
      · rw [e1, dm]; omega
      · rw [dq i (by omega)]; exact h10 ha i (by omega)
    · rw [dq i (by omega), dq j (by omega)]; exact h9 i j hij (by omega)
  · rw [dq at' ha]
    by_cases e1 : i = m
    · rw [e1, dm]; omega
    · rw [dq i (by omega)]; exact h10 ha i (by omega)
  · by_cases e1 : i = m
    · rw [e1, dm, updN_y]
      have r := h11 at' ha
      have nz := (h3 at' ha).2
      refine ⟨?_, by omega⟩
      rw [show dz (q at') + 1 - 1 = (dz (q at') - 1) + 1 from by omega]
      exact ⟨q at', r.1, hn⟩
    · rw [dq i (by omega), qk i (by omega)]; exact h11 i (by omega)
  · rw [dq i (by omega)]
    rw [qk i (by omega)] at hz2
    have := h12 i hi z hz2
    rw [dk z this.1]
    exact this
theorem bi_next (h : BI Nb N k dz q m at') (ha : at' < m) (hc : ∀ y, Nb (q at') y → y < N ∧ dz y ≠ 0) : BI Nb N k dz q m (at' + 1) := by
  obtain ⟨⟨h1, h2⟩, h3, h4, h5, h6, h9, h10, h11, h12⟩ := h
  refine ⟨⟨by omega, h2⟩, h3, h4, h5, h6, h9, fun l i hi => ?_, h11, fun i hi y hy => ?_⟩
  · have a1 := h10 ha i hi
    have a2 := h9 at' (at' + 1) (by omega) l
    omega
  · by_cases e : i = at'
    · rw [e] at hy ⊢
      obtain ⟨y1, y2⟩ := hc y hy
      obtain ⟨j, hj, ej⟩ := h5 y y1 y2
      refine ⟨y2, ?_⟩
      rw [← ej]
      exact h10 ha j hj
    · exact h12 i (by omega) y hy
theorem bi_ans (h : BI Nb N k dz q m at') (hN : ∀ x y, Nb x y → y < N) {l : Nat} (hl : l < N) (hs : m ≤ at' ∨ dz l ≠ 0) : Ans Nb k l (dz l) ∧ dz l ≤ N := by
  obtain ⟨⟨h1, h2⟩, h3, h4, h5, ⟨h6, h7, h8⟩, h9, h10, h11, h12⟩ := h
  have k1 : k < N := by rw [← h7]; exact (h3 0 h6).1
  have rl : ∀ d x, Rch Nb k d x → x < N := fun d x r => by
    cases d with
    | zero => rw [show x = k from r]; exact k1
    | succ d =>
      obtain ⟨y, _, ny⟩ := r
      exact hN y x ny
  have le : dz l ≤ N := by
    by_cases z : dz l = 0
    · omega
    · obtain ⟨i, hi, ei⟩ := h5 l hl z
      have := (h11 i hi).2
      rw [ei] at this
      omega
  refine ⟨?_, le⟩
  by_cases z : dz l = 0
  · have e : m ≤ at' := by
      rcases hs with e | e
      · exact e
      · exact absurd z e
    have all : ∀ d x, Rch Nb k d x → dz x ≠ 0 := by
      intro d
      induction d with
      | zero => intro x r; rw [show x = k from r, h8]; decide
      | succ d ih =>
        intro x r
        obtain ⟨y, ry, ny⟩ := r
        obtain ⟨i, hi, ei⟩ := h5 y (rl d y ry) (ih y ry)
        rw [← ei] at ny
        exact (h12 i (by omega) x ny).1
    exact Or.inl ⟨z, fun d r => all d l r z⟩
  · obtain ⟨i, hi, ei⟩ := h5 l hl z
    have rr := (h11 i hi).1
    rw [ei] at rr
    refine Or.inr ⟨z, rr, ?_⟩
    have all : ∀ d x, Rch Nb k d x → d + 1 < dz l → dz x ≠ 0 ∧ dz x ≤ d + 1 := by
      intro d
      induction d with
      | zero => intro x r _; rw [show x = k from r, h8]; exact ⟨by decide, by omega⟩
      | succ d ih =>
        intro x r hd
        obtain ⟨y, ry, ny⟩ := r
        obtain ⟨y1, y2⟩ := ih y ry (by omega)
        obtain ⟨j, hj, ej⟩ := h5 y (rl d y ry) y1
        by_cases ja : j < at'
        · rw [← ej] at ny
          have := h12 j ja x ny
          rw [ej] at this
          exact ⟨this.1, by omega⟩
        · have am : at' < m := by omega
          have b1 := h9 at' j (by omega) hj
          have b2 := h10 am i hi
          rw [ej] at b1
          rw [ei] at b2
          omega
    intro d hd r
    have := (all d l r hd).2
    omega
end
