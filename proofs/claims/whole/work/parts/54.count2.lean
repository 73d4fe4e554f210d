/-! Nets that begin alike are no more than their sweeps. -/
theorem cons_i1 {f : Nat → Bool} {a c b : Nat} (h : Cons f a b) (h1 : a < c) (h2 : c < b) : Cons (fup f c true) a c :=
  ⟨by rw [fup_o (by omega)]; exact h.1, fup_s _ _ _, h1, fun d d1 d2 => by rw [fup_o (by omega)]; exact h.2.2.2 d d1 (by omega)⟩
theorem cons_i2 {f : Nat → Bool} {a c b : Nat} (h : Cons f a b) (h1 : a < c) (h2 : c < b) : Cons (fup f c true) c b :=
  ⟨fup_s _ _ _, by rw [fup_o (by omega)]; exact h.2.1, h2, fun d d1 d2 => by rw [fup_o (by omega)]; exact h.2.2.2 d (by omega) d2⟩
theorem cons_i3 {f : Nat → Bool} {c x y : Nat} (h : Cons f x y) (hc : f c = false) (h1 : ¬ (x < c ∧ c < y)) : Cons (fup f c true) x y := by
  have nx : x ≠ c := fun e => by have := h.1; rw [e, hc] at this; cases this
  have ny : y ≠ c := fun e => by have := h.2.1; rw [e, hc] at this; cases this
  exact ⟨by rw [fup_o nx]; exact h.1, by rw [fup_o ny]; exact h.2.1, h.2.2.1, fun d d1 d2 => by rw [fup_o (by omega)]; exact h.2.2.2 d d1 d2⟩
theorem cons_r1 {f : Nat → Bool} {a c b : Nat} (h : Cons f a c) (h2 : Cons f c b) : Cons (fup f c false) a b := by
  have q1 := h.2.2.1
  have q2 := h2.2.2.1
  refine ⟨by rw [fup_o (by omega)]; exact h.1, by rw [fup_o (by omega)]; exact h2.2.1, by omega, fun d d1 d2 => ?_⟩
  by_cases e : d = c
  · subst e; exact fup_s _ _ _
  · rw [fup_o e]
    by_cases e2 : d < c
    · exact h.2.2.2 d d1 e2
    · exact h2.2.2.2 d (by omega) d2
theorem cons_r2 {f : Nat → Bool} {c x y : Nat} (h : Cons f x y) (nx : x ≠ c) (ny : y ≠ c) : Cons (fup f c false) x y := by
  refine ⟨by rw [fup_o nx]; exact h.1, by rw [fup_o ny]; exact h.2.1, h.2.2.1, fun d d1 d2 => ?_⟩
  by_cases e : d = c
  · subst e; exact fup_s _ _ _
  · rw [fup_o e]; exact h.2.2.2 d d1 d2
theorem cons_u {f : Nat → Bool} {m a b x y c : Nat} (h : Cons f a b) (k : Cons f x y) (h1 : a < c) (h2 : c < b) (k1 : x < c) (k2 : c < y) (hb : b < m) (hy : y < m) : x = a ∧ y = b :=
  ⟨(prv_in k k1 k2).symm.trans (prv_in h h1 h2), (nxt_in k k1 k2 hy).symm.trans (nxt_in h h1 h2 hb)⟩
noncomputable def wtA (o : Nat → Nat → Nat → Bool) (f : Nat → Bool) (i : Nat) : Nat := cond (f i) 1 (cond (cdec (AbP o f i)) 2 0)
noncomputable def Phi (o : Nat → Nat → Nat → Bool) (m : Nat) (f : Nat → Bool) : Nat := sumR (fun i => wtA o f (i + 1)) (m - 2)
section
variable {P : Nat → Prop} {o : Nat → Nat → Nat → Bool} {m : Nat} {T : Nat → Nat → Prop} {f : Nat → Bool}
theorem wt_le {f' : Nat → Bool} {i : Nat} (hf : f' i = f i) (h : ¬ AbP o f i → ¬ AbP o f' i) : wtA o f' i ≤ wtA o f i := by
  unfold wtA
  rw [hf]
  cases f i with
  | true => exact Nat.le_refl _
  | false =>
    show cond (cdec (AbP o f' i)) 2 0 ≤ cond (cdec (AbP o f i)) 2 0
    by_cases h1 : AbP o f i
    · rw [cdec_t h1]
      cases cdec (AbP o f' i) <;> decide
    · rw [cdec_f h1, cdec_f (h h1)]
      exact Nat.le_refl _
theorem nab_of (hp : PathIn T f m) {i : Nat} (h : ¬ AbP o f i) : f i = false ∧ ∃ x y, Cons f x y ∧ x < i ∧ i < y ∧ y < m ∧ o x i y = false := by
  refine ⟨bf (fun e => h (Or.inl e)), ?_⟩
  apply Classical.byContradiction
  intro hn
  refine h (Or.inr (fun a b hc h1 h2 => bt (fun e => hn ⟨a, b, hc, h1, h2, hp.2.2.1 b hc.2.1, e⟩)))
theorem phi_ins (H : SW P o m T) (hp : PathIn T f m) {a c b : Nat} (hi : Ins o m T f a c b) : Phi o m (fup f c true) < Phi o m f := by
  obtain ⟨hc, h1, h2, k, tac, tcb, em⟩ := hi
  have bm := hp.2.2.1 b hc.2.1
  have C := H.1.1
  have hP := H.1.2.1
  have pm := hP m (by omega)
  have pa := hP a (by omega)
  have pb := hP b (by omega)
  have pc := hP c (by omega)
  have fc := hc.2.2.2 c h1 h2
  have A := fun (i j : Nat) (hij : i < j) (hj : j < m) => sw_ang H hij hj
  refine sumR_lt _ (fun i hi => ?_) ⟨c - 1, by omega, ?_⟩
  · by_cases e : i + 1 = c
    · rw [e]
      unfold wtA
      rw [fup_s, fc]
      have : AbP o f c := Or.inr (fun x y hxy x1 y1 => by
        obtain ⟨rfl, rfl⟩ := cons_u hc hxy h1 h2 x1 y1 bm (hp.2.2.1 y hxy.2.1)
        exact k)
      rw [cdec_t this]
      show 1 ≤ 2
      omega
    · refine wt_le (fup_o e) (fun hn => ?_)
      obtain ⟨fi, x, y, hxy, x1, y1, ym, kk⟩ := nab_of hp hn
      intro hab
      rcases hab with q | q
      · rw [fup_o e, fi] at q; cases q
      by_cases e2 : x < c ∧ c < y
      · obtain ⟨rfl, rfl⟩ := cons_u hc hxy h1 h2 e2.1 e2.2 bm ym
        have pq := hP (i + 1) (by omega)
        by_cases e3 : i + 1 < c
        · have := q x c (cons_i1 hc h1 h2) x1 e3
          exact tb1 C (A x (i + 1) x1 (by omega)) (A x c h1 (by omega)) (A x y (by omega) bm) (A (i + 1) c e3 (by omega)) (A (i + 1) y y1 bm) (A c y h2 bm) k kk this
        · have := q c y (cons_i2 hc h1 h2) (by omega) y1
          exact tb2 C (A x c h1 (by omega)) (A x (i + 1) x1 (by omega)) (A x y (by omega) bm) (A c (i + 1) (by omega) (by omega)) (A c y h2 bm) (A (i + 1) y y1 bm) k kk this
      · have := q x y (cons_i3 hxy fc e2) x1 y1
        rw [kk] at this; cases this
  · have e : c - 1 + 1 = c := by omega
    simp only [e]
    unfold wtA
    rw [fup_s, fc]
    have : AbP o f c := Or.inr (fun x y hxy x1 y1 => by
      obtain ⟨rfl, rfl⟩ := cons_u hc hxy h1 h2 x1 y1 bm (hp.2.2.1 y hxy.2.1)
      exact k)
    rw [cdec_t this]
    show 1 < 2
    omega
theorem phi_rem (H : SW P o m T) (hp : PathIn T f m) {a c b : Nat} (hi : Rem o m T f a c b) : Phi o m (fup f c false) < Phi o m f := by
  obtain ⟨hc, hc2, k, tab, em⟩ := hi
  have bm := hp.2.2.1 b hc2.2.1
  have h1 := hc.2.2.1
  have h2 := hc2.2.2.1
  have C := H.1.1
  have hP := H.1.2.1
  have pm := hP m (by omega)
  have pa := hP a (by omega)
  have pb := hP b (by omega)
  have pc := hP c (by omega)
  have A := fun (i j : Nat) (hij : i < j) (hj : j < m) => sw_ang H hij hj
  have hcc : ¬ AbP o (fup f c false) c := by
    intro q
    rcases q with q | q
    · rw [fup_s] at q; cases q
    · have := q a b (cons_r1 hc hc2) h1 h2
      rw [k] at this; cases this
  have wc : wtA o (fup f c false) c < wtA o f c := by
    unfold wtA
    rw [fup_s, hc.2.1, cdec_f hcc]
    show 0 < 1
    omega
  refine sumR_lt _ (fun i hi => ?_) ⟨c - 1, by omega, ?_⟩
  · by_cases e : i + 1 = c
    · rw [e]; omega
    · refine wt_le (fup_o e) (fun hn => ?_)
      obtain ⟨fi, x, y, hxy, x1, y1, ym, kk⟩ := nab_of hp hn
      intro hab
      rcases hab with q | q
      · rw [fup_o e, fi] at q; cases q
      have pq := hP (i + 1) (by omega)
      by_cases ey : y = c
      · subst ey
        have hx : x = a := (prv_at hxy).symm.trans (prv_at hc)
        subst hx
        have := q x b (cons_r1 hc hc2) x1 (by omega)
        exact tr7 C (A x (i + 1) x1 (by omega)) (A x y h1 (by omega)) (A x b (by omega) bm) (A (i + 1) y y1 (by omega)) (A (i + 1) b (by omega) bm) (A y b h2 bm) k kk this
      by_cases ex : x = c
      · subst ex
        have hy : y = b := (nxt_at hxy ym).symm.trans (nxt_at hc2 bm)
        subst hy
        have := q a y (cons_r1 hc hc2) (by omega) y1
        exact tr8 C (A a x h1 (by omega)) (A a (i + 1) (by omega) (by omega)) (A a y (by omega) bm) (A x (i + 1) x1 (by omega)) (A x y h2 bm) (A (i + 1) y y1 bm) k kk this
      · have := q x y (cons_r2 hxy ex ey) x1 y1
        rw [kk] at this; cases this
  · have e : c - 1 + 1 = c := by omega
    simp only [e]
    exact wc
theorem okI_of (H : SW P o m T) (hp : PathIn T f m) {a c b : Nat} (hi : Ins o m T f a c b) : okI o m a c b = true := by
  obtain ⟨hc, h1, h2, k, tac, tcb, em⟩ := hi
  have bm := hp.2.2.1 b hc.2.1
  have C := H.1.1
  have hP := H.1.2.1
  have pm := hP m (by omega)
  have pa := hP a (by omega)
  have pb := hP b (by omega)
  have pc := hP c (by omega)
  have A := fun (i j : Nat) (hij : i < j) (hj : j < m) => sw_ang H hij hj
  unfold okI
  rw [k, Bool.true_and, List.all_eq_true]
  intro d hd
  have dm := List.mem_range.mp hd
  have pd := hP d (by omega)
  rw [Bool.and_eq_true]
  constructor
  · by_cases e : a < d ∧ d < c
    · cases e1 : o a d b with
      | false => simp
      | true =>
        have : o a d c = true := bt (fun e2 => tA1 C (A a d e.1 dm) (A a c h1 (by omega)) (A a b (by omega) bm) (A d c e.2 (by omega)) (A d b (by omega) bm) (A c b h2 bm) k e1 e2 (em d (by omega)))
        simp [this]
    · have : (decide (a < d) && decide (d < c)) = false := by
        rw [Bool.and_eq_false_iff]
        by_cases e3 : a < d
        · exact Or.inr (decide_eq_false (fun q => e ⟨e3, q⟩))
        · exact Or.inl (decide_eq_false e3)
      rw [this]; rfl
  · by_cases e : c < d ∧ d < b
    · cases e1 : o a d b with
      | false => simp
      | true =>
        have : o c d b = true := bt (fun e2 => tA2 C (A a c h1 (by omega)) (A a d (by omega) dm) (A a b (by omega) bm) (A c d e.1 dm) (A c b h2 bm) (A d b e.2 bm) k e1 e2 (em d (by omega)))
        simp [this]
    · have : (decide (c < d) && decide (d < b)) = false := by
        rw [Bool.and_eq_false_iff]
        by_cases e3 : c < d
        · exact Or.inr (decide_eq_false (fun q => e ⟨e3, q⟩))
        · exact Or.inl (decide_eq_false e3)
      rw [this]; rfl
theorem okR_of (H : SW P o m T) (hp : PathIn T f m) {a c b : Nat} (hi : Rem o m T f a c b) : okR o m a c b = true := by
  obtain ⟨hc, hc2, k, tab, em⟩ := hi
  have bm := hp.2.2.1 b hc2.2.1
  have h1 := hc.2.2.1
  have h2 := hc2.2.2.1
  have C := H.1.1
  have hP := H.1.2.1
  have pm := hP m (by omega)
  have pa := hP a (by omega)
  have pb := hP b (by omega)
  have pc := hP c (by omega)
  have A := fun (i j : Nat) (hij : i < j) (hj : j < m) => sw_ang H hij hj
  unfold okR
  rw [k, Bool.not_false, Bool.true_and, List.all_eq_true]
  intro d hd
  have dm := List.mem_range.mp hd
  have pd := hP d (by omega)
  rw [Bool.and_eq_true]
  constructor
  · by_cases e : a < d ∧ d < c
    · cases e1 : o a d c with
      | false => simp
      | true =>
        have : o a d b = true := bt (fun e2 => tr5 C (A a d e.1 dm) (A a c h1 (by omega)) (A a b (by omega) bm) (A d c e.2 (by omega)) (A d b (by omega) bm) (A c b h2 bm) k e1 (em d (by omega)) e2)
        simp [this]
    · have : (decide (a < d) && decide (d < c)) = false := by
        rw [Bool.and_eq_false_iff]
        by_cases e3 : a < d
        · exact Or.inr (decide_eq_false (fun q => e ⟨e3, q⟩))
        · exact Or.inl (decide_eq_false e3)
      rw [this]; rfl
  · by_cases e : c < d ∧ d < b
    · cases e1 : o c d b with
      | false => simp
      | true =>
        have : o a d b = true := bt (fun e2 => tr6 C (A a c h1 (by omega)) (A a d (by omega) dm) (A a b (by omega) bm) (A c d e.1 dm) (A c b h2 bm) (A d b e.2 bm) k e1 (em d (by omega)) e2)
        simp [this]
    · have : (decide (c < d) && decide (d < b)) = false := by
        rw [Bool.and_eq_false_iff]
        by_cases e3 : c < d
        · exact Or.inr (decide_eq_false (fun q => e ⟨e3, q⟩))
        · exact Or.inl (decide_eq_false e3)
      rw [this]; rfl
theorem topC_of (H : SW P o m T) (hp : PathIn T f m) (ht : Top o m f) : topC o m f = true := by
  have C := H.1.1
  have hP := H.1.2.1
  unfold topC
  rw [List.all_eq_true]
  intro i hi
  have him := List.mem_range.mp hi
  cases fc : f (i + 1) with
  | true =>
    obtain ⟨a, ha⟩ := cons_prev fc hp.1 (by omega)
    obtain ⟨b, hb, _⟩ := cons_next fc hp.2.1 (by omega)
    have h2 := hb.2.2.1
    have h1 := ha.2.2.1
    rw [prv_at ha, nxt_at hb (by omega), ht a (i + 1) ha b (by omega) (by omega) (by omega)]
    rfl
  | false =>
    obtain ⟨a, b, hc, h1, h2, bm⟩ := cons_span hp.1 hp.2.1 (by omega) (by omega) fc
    have k := ht a b hc (i + 1) (by omega) (by omega) (by omega)
    rw [prv_in hc h1 h2, nxt_in hc h1 h2 bm, cr4 C (hP a (by omega)) (hP b (by omega)) (hP (i + 1) (by omega)) (by omega) (by omega) (by omega), k]
    rfl
end
