/-! SWEEPS round an extreme point m, the others 0 .. m - 1 in their order round it: a path that is not the last can advance. -/
def Cons (f : Nat → Bool) (a b : Nat) : Prop := f a = true ∧ f b = true ∧ a < b ∧ ∀ c, a < c → c < b → f c = false
def Rad (P : Nat → Prop) (o : Nat → Nat → Nat → Bool) (m : Nat) : Prop := CC P o ∧ (∀ x, x ≤ m → P x) ∧ ∀ i j, i < j → j < m → o m i j = true
def PathIn (T : Nat → Nat → Prop) (f : Nat → Bool) (m : Nat) : Prop := f 0 = true ∧ f (m - 1) = true ∧ (∀ i, f i = true → i < m) ∧ ∀ a b, Cons f a b → T a b
def Emp (o : Nat → Nat → Nat → Bool) (m a b c : Nat) : Prop := ∀ q, q ≤ m → wit o q a b c = false
def Ins (o : Nat → Nat → Nat → Bool) (m : Nat) (T : Nat → Nat → Prop) (f : Nat → Bool) (a c b : Nat) : Prop := Cons f a b ∧ a < c ∧ c < b ∧ o a c b = true ∧ T a c ∧ T c b ∧ Emp o m a c b
def Rem (o : Nat → Nat → Nat → Bool) (m : Nat) (T : Nat → Nat → Prop) (f : Nat → Bool) (a c b : Nat) : Prop := Cons f a c ∧ Cons f c b ∧ o a c b = false ∧ T a b ∧ Emp o m a c b
def Top (o : Nat → Nat → Nat → Bool) (m : Nat) (f : Nat → Bool) : Prop := ∀ a b, Cons f a b → ∀ q, q < m → q ≠ a → q ≠ b → o a b q = true
theorem cons_next {f : Nat → Bool} {m b : Nat} (hb : f b = true) (hm : f (m - 1) = true) (h : b < m - 1) : ∃ c, Cons f b c ∧ c ≤ m - 1 := by
  obtain ⟨c, hc, ⟨c1, c2⟩, hmin⟩ := ex_min (X := fun x => b < x ∧ f x = true) (R := fun x y => x < y) (fun x _ r => Nat.lt_irrefl x r) (fun x y z _ _ _ r s => Nat.lt_trans r s) (List.range m) ⟨m - 1, List.mem_range.mpr (by omega), h, hm⟩
  have hcm := List.mem_range.mp hc
  refine ⟨c, ⟨hb, c2, c1, fun d d1 d2 => bf (fun e => hmin d (List.mem_range.mpr (by omega)) ⟨d1, e⟩ d2)⟩, by omega⟩
theorem cons_prev {f : Nat → Bool} {b : Nat} (hb : f b = true) (h0 : f 0 = true) (h : 0 < b) : ∃ c, Cons f c b := by
  obtain ⟨c, hc, ⟨c1, c2⟩, hmin⟩ := ex_min (X := fun x => x < b ∧ f x = true) (R := fun x y => y < x) (fun x _ r => Nat.lt_irrefl x r) (fun x y z _ _ _ r s => Nat.lt_trans s r) (List.range b) ⟨0, List.mem_range.mpr h, h, h0⟩
  exact ⟨c, c2, hb, c1, fun d d1 d2 => bf (fun e => hmin d (List.mem_range.mpr d2) ⟨d2, e⟩ d1)⟩
section
variable {P : Nat → Prop} {o : Nat → Nat → Nat → Bool} {m : Nat} {T : Nat → Nat → Prop} {f : Nat → Bool}
def SW (P : Nat → Prop) (o : Nat → Nat → Nat → Bool) (m : Nat) (T : Nat → Nat → Prop) : Prop := Rad P o m ∧ Net o (m :: List.range m) T ∧ FP o (m :: List.range m) T
theorem sw_l {x : Nat} (h : x ≤ m) : x ∈ m :: List.range m := by
  by_cases e : x = m
  · rw [e]; exact List.mem_cons_self
  · exact List.mem_cons_of_mem _ (List.mem_range.mpr (by omega))
theorem sw_m {x : Nat} (h : x ∈ m :: List.range m) : x ≤ m := by
  rcases List.mem_cons.mp h with e | e
  · omega
  · have := List.mem_range.mp e; omega
theorem sw_n (H : SW P o m T) {a b c d : Nat} (h : T a b) (k : T c d) : crs o a b c d = false := H.2.1.2.1 a b c d h k
theorem sw_sym (H : SW P o m T) {a b : Nat} (h : T a b) : T b a := (H.2.1.1 a b h).2.2.2
theorem sw_ang (H : SW P o m T) {i j : Nat} (h : i < j) (k : j < m) : o m i j = true := H.1.2.2 i j h k
theorem sw_apex (H : SW P o m T) {a b q : Nat} (hab : a < b) (hb : b < m) (ht : T a b) (hq : q < m) (n1 : q ≠ a) (n2 : q ≠ b) (h : o a b q = false) : ∃ w, w < m ∧ w ≠ a ∧ w ≠ b ∧ o a b w = false ∧ T a w ∧ T b w ∧ Emp o m a b w := by
  have C := H.1.1
  have hP := H.1.2.1
  have pa := hP a (by omega)
  have pb := hP b (by omega)
  have pm := hP m (by omega)
  have nab : a ≠ b := by omega
  have k1 : o b a q = true := by rw [cr3 C pa pb (hP q (by omega)) nab n1.symm n2.symm, h]; rfl
  obtain ⟨w, wl, nwb, nwa, kw, hbw, haw, em⟩ := H.2.2 b a (sw_sym H ht) ⟨q, sw_l (by omega), n2, n1, k1⟩
  have hw := sw_m wl
  have pw := hP w hw
  have kw2 : o a b w = false := by rw [cr3 C pb pa pw nab.symm nwb.symm nwa.symm, kw]; rfl
  have nwm : w ≠ m := by
    intro e
    subst e
    rw [cr1 C pm pa pb (by omega) (by omega) nab, sw_ang H hab hb] at kw2
    cases kw2
  exact ⟨w, by omega, nwa, nwb, kw2, haw, hbw, fun q hq => by rw [wit_sw C (hP q hq) pb pa pw nab.symm nwb.symm nwa.symm]; exact em q (sw_l hq)⟩
def LnR (o : Nat → Nat → Nat → Bool) (m : Nat) (T : Nat → Nat → Prop) (a b : Nat) : Prop := ∃ w, b < w ∧ w < m ∧ o a b w = false ∧ T a w ∧ T b w ∧ Emp o m a b w
def LnL (o : Nat → Nat → Nat → Bool) (m : Nat) (T : Nat → Nat → Prop) (a b : Nat) : Prop := ∃ w, w < a ∧ o a b w = false ∧ T a w ∧ T b w ∧ Emp o m a b w
theorem sw_lean (H : SW P o m T) (hp : PathIn T f m) (hI : ∀ a c b, ¬ Ins o m T f a c b) {a b q : Nat} (hc : Cons f a b) (hq : q < m) (n1 : q ≠ a) (n2 : q ≠ b) (h : o a b q = false) : LnR o m T a b ∨ LnL o m T a b := by
  have hb := hp.2.2.1 b hc.2.1
  obtain ⟨w, wm, nwa, nwb, kw, haw, hbw, em⟩ := sw_apex H hc.2.2.1 hb (hp.2.2.2 a b hc) hq n1 n2 h
  by_cases h1 : b < w
  · exact Or.inl ⟨w, h1, wm, kw, haw, hbw, em⟩
  by_cases h2 : w < a
  · exact Or.inr ⟨w, h2, kw, haw, hbw, em⟩
  exfalso
  have hab := hc.2.2.1
  have C := H.1.1
  have hP := H.1.2.1
  have pa := hP a (by omega)
  have pb := hP b (by omega)
  have pw := hP w (by omega)
  refine hI a w b ⟨hc, by omega, by omega, ?_, haw, sw_sym H hbw, fun q hq => ?_⟩
  · rw [cr4 C pa pb pw (by omega) nwa.symm nwb.symm, kw]; rfl
  · rw [wit_p2 C (hP q hq) pa pb pw (by omega) nwa.symm nwb.symm]; exact em q hq
theorem rl_step (H : SW P o m T) (hp : PathIn T f m) (hI : ∀ a c b, ¬ Ins o m T f a c b) (hR : ∀ a c b, ¬ Rem o m T f a c b) {a b : Nat} (hc : Cons f a b) (h : LnR o m T a b) : ∃ x, Cons f b x ∧ LnR o m T b x := by
  obtain ⟨w, bw, wm, kw, haw, hbw, em⟩ := h
  obtain ⟨x, hx, hxm⟩ := cons_next hc.2.1 hp.2.1 (by omega)
  have hab := hc.2.2.1
  have hbx := hx.2.2.1
  have C := H.1.1
  have hP := H.1.2.1
  have pm := hP m (by omega)
  have pa := hP a (by omega)
  have pb := hP b (by omega)
  have pw := hP w (by omega)
  have px := hP x (by omega)
  have tab := hp.2.2.2 a b hc
  have tbx := hp.2.2.2 b x hx
  by_cases e : x = w
  · subst e
    exact (hR a b x ⟨hc, hx, kw, haw, em⟩).elim
  have nxw : x ≠ w := e
  have k1 : o b x w = false := bf (fun e => te1 C (sw_ang H hab (by omega)) (sw_ang H (by omega : a < w) wm) (sw_ang H bw wm) (sw_ang H (by omega : a < x) (by omega)) (sw_ang H hbx (by omega)) kw (sw_n H tbx haw) (em x (by omega)) e)
  rcases sw_lean H hp hI hx wm (by omega) (Ne.symm e) k1 with h | h
  · exact ⟨x, hx, h⟩
  · exfalso
    obtain ⟨y, yb, ky, hby, hxy, emy⟩ := h
    have py := hP y (by omega)
    by_cases ey : y = a
    · subst ey
      have kx : o y b x = false := (cr2 C pb px py (by omega) (by omega) (by omega)).trans ky
      refine tf9 C (a := y) (b := b) (z := w) (y := x) kw kx ?_ (em x (by omega)) (sw_n H haw tbx) (sw_n H (sw_sym H hxy) hbw)
      rw [wit_rot2 C pb px py (by omega) (by omega) (by omega)]
      exact emy w (by omega)
    · have nya : y ≠ a := ey
      exact te2 C (sw_ang H hab (by omega)) (sw_ang H (by omega : a < w) wm) (sw_ang H bw wm) (sw_ang H (by omega : a < x) (by omega)) (sw_ang H hbx (by omega)) (sw_ang H yb (by omega)) (sw_ang H (by omega : y < x) (by omega)) (sw_ang H (by omega : y < w) wm) kw ky (em x (by omega)) (em y (by omega)) (emy a (by omega)) (emy w (by omega)) (sw_n H haw tbx) (sw_n H haw hby) (sw_n H haw hxy) (sw_n H hbw hxy) (sw_n H tab hxy)
theorem rl_no (H : SW P o m T) (hp : PathIn T f m) (hI : ∀ a c b, ¬ Ins o m T f a c b) (hR : ∀ a c b, ¬ Rem o m T f a c b) : ∀ (k a b : Nat), m - b ≤ k → Cons f a b → LnR o m T a b → False := by
  intro k
  induction k with
  | zero =>
    intro a b hk hc h
    obtain ⟨w, bw, wm, _⟩ := h
    omega
  | succ k ih =>
    intro a b hk hc h
    obtain ⟨x, hx, h2⟩ := rl_step H hp hI hR hc h
    have := hx.2.2.1
    have := hp.2.2.1 x hx.2.1
    exact ih b x (by omega) hx h2
theorem ll_step (H : SW P o m T) (hp : PathIn T f m) (hI : ∀ a c b, ¬ Ins o m T f a c b) (hR : ∀ a c b, ¬ Rem o m T f a c b) {a b : Nat} (hc : Cons f a b) (h : LnL o m T a b) : ∃ x, Cons f x a ∧ LnL o m T x a := by
  obtain ⟨w, wa, kw, haw, hbw, em⟩ := h
  obtain ⟨x, hx⟩ := cons_prev hc.1 hp.1 (by omega)
  have hab := hc.2.2.1
  have hxa := hx.2.2.1
  have bm := hp.2.2.1 b hc.2.1
  have C := H.1.1
  have hP := H.1.2.1
  have pm := hP m (by omega)
  have pa := hP a (by omega)
  have pb := hP b (by omega)
  have pw := hP w (by omega)
  have px := hP x (by omega)
  have tab := hp.2.2.2 a b hc
  have txa := hp.2.2.2 x a hx
  by_cases e : x = w
  · subst e
    refine (hR x a b ⟨hx, hc, (cr2 C pa pb px (by omega) (by omega) (by omega)).trans kw, sw_sym H hbw, fun q hq => ?_⟩).elim
    rw [wit_rot2 C pa pb px (by omega) (by omega) (by omega)]
    exact em q hq
  have nxw : x ≠ w := e
  have k1 : o x a w = false := bf (fun e => tg1 C (sw_ang H hab bm) (sw_ang H wa (by omega)) (sw_ang H (by omega : w < b) bm) (sw_ang H hxa (by omega)) (sw_ang H (by omega : x < b) bm) kw (sw_n H txa (sw_sym H hbw)) (em x (by omega)) e)
  rcases sw_lean H hp hI hx (by omega : w < m) (Ne.symm e) (by omega) k1 with h | h
  · exfalso
    obtain ⟨y, ay, ym, ky, hxy, hay, emy⟩ := h
    have py := hP y (by omega)
    have hwb := sw_sym H hbw
    have hwa := sw_sym H haw
    by_cases ey : y = b
    · subst ey
      have kx : o a y x = false := (cr1 C px pa py (by omega) (by omega) (by omega)).trans ky
      refine tf9 C (a := a) (b := y) (z := w) (y := x) kw kx ?_ (em x (by omega)) (sw_n H haw (sw_sym H hxy)) (sw_n H (sw_sym H txa) hbw)
      rw [wit_rot C px pa py (by omega) (by omega) (by omega)]
      exact emy w (by omega)
    · have nyb : y ≠ b := ey
      exact tg2 C (sw_ang H hab bm) (sw_ang H wa (by omega)) (sw_ang H (by omega : w < b) bm) (sw_ang H hxa (by omega)) (sw_ang H (by omega : x < b) bm) (sw_ang H ay ym) (sw_ang H (by omega : x < y) ym) (sw_ang H (by omega : w < y) ym) kw ky (em x (by omega)) (em y (by omega)) (emy b (by omega)) (emy w (by omega)) (sw_n H hwb txa) (sw_n H hwb hay) (sw_n H hwb hxy) (sw_n H hwa hxy) (sw_n H tab hxy)
  · exact ⟨x, hx, h⟩
theorem ll_no (H : SW P o m T) (hp : PathIn T f m) (hI : ∀ a c b, ¬ Ins o m T f a c b) (hR : ∀ a c b, ¬ Rem o m T f a c b) : ∀ (k a b : Nat), a ≤ k → Cons f a b → LnL o m T a b → False := by
  intro k
  induction k with
  | zero =>
    intro a b hk hc h
    obtain ⟨w, wa, _⟩ := h
    omega
  | succ k ih =>
    intro a b hk hc h
    obtain ⟨x, hx, h2⟩ := ll_step H hp hI hR hc h
    have := hx.2.2.1
    exact ih x a (by omega) hx h2
theorem sw_go (H : SW P o m T) (hp : PathIn T f m) : (∃ a c b, Ins o m T f a c b) ∨ (∃ a c b, Rem o m T f a c b) ∨ Top o m f := by
  by_cases h1 : ∃ a c b, Ins o m T f a c b
  · exact Or.inl h1
  by_cases h2 : ∃ a c b, Rem o m T f a c b
  · exact Or.inr (Or.inl h2)
  refine Or.inr (Or.inr (fun a b hc q hq n1 n2 => bt (fun e => ?_)))
  have hI : ∀ a c b, ¬ Ins o m T f a c b := fun a c b h => h1 ⟨a, c, b, h⟩
  have hR : ∀ a c b, ¬ Rem o m T f a c b := fun a c b h => h2 ⟨a, c, b, h⟩
  rcases sw_lean H hp hI hc hq n1 n2 e with h | h
  · exact rl_no H hp hI hR _ a b (Nat.le_refl _) hc h
  · exact ll_no H hp hI hR _ a b (Nat.le_refl _) hc h
end
