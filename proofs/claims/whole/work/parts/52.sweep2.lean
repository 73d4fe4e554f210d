/-! What lies above a path, and how an advance leaves it there. -/
def AbP (o : Nat → Nat → Nat → Bool) (f : Nat → Bool) (x : Nat) : Prop := f x = true ∨ ∀ a b, Cons f a b → a < x → x < b → o a x b = true
def SA (o : Nat → Nat → Nat → Bool) (f : Nat → Bool) (u v : Nat) : Prop := (∀ c, f c = true → u < c → c < v → o u c v = false) ∧ AbP o f u ∧ AbP o f v ∧ ¬ Cons f u v
def fup (f : Nat → Bool) (c : Nat) (v : Bool) : Nat → Bool := fun i => if i = c then v else f i
theorem fup_s (f : Nat → Bool) (c : Nat) (v : Bool) : fup f c v c = v := if_pos rfl
theorem fup_o {f : Nat → Bool} {c : Nat} {v : Bool} {i : Nat} (h : i ≠ c) : fup f c v i = f i := if_neg h
theorem cons_ins {f : Nat → Bool} {a c b x y : Nat} (h : Cons f a b) (h1 : a < c) (h2 : c < b) (k : Cons (fup f c true) x y) : (x = a ∧ y = c) ∨ (x = c ∧ y = b) ∨ (Cons f x y ∧ ¬ (x = a ∧ y = b)) := by
  obtain ⟨ha, hb, hab, hn⟩ := h
  obtain ⟨kx, ky, kxy, kn⟩ := k
  have fa : fup f c true a = true := by rw [fup_o (by omega)]; exact ha
  have fb : fup f c true b = true := by rw [fup_o (by omega)]; exact hb
  by_cases e1 : x = c
  · subst e1
    refine Or.inr (Or.inl ⟨rfl, ?_⟩)
    rw [fup_o (by omega)] at ky
    by_cases e2 : y = b
    · exact e2
    by_cases e3 : b < y
    · rw [kn b h2 e3] at fb; cases fb
    · rw [hn y (by omega) (by omega)] at ky; cases ky
  by_cases e2 : y = c
  · subst e2
    refine Or.inl ⟨?_, rfl⟩
    rw [fup_o (by omega)] at kx
    by_cases e3 : x = a
    · exact e3
    by_cases e4 : x < a
    · rw [kn a e4 h1] at fa; cases fa
    · rw [hn x (by omega) (by omega)] at kx; cases kx
  refine Or.inr (Or.inr ⟨⟨?_, ?_, kxy, fun d d1 d2 => ?_⟩, fun e => ?_⟩)
  · rw [fup_o e1] at kx; exact kx
  · rw [fup_o e2] at ky; exact ky
  · have := kn d d1 d2
    by_cases e3 : d = c
    · subst e3; rw [fup_s] at this; cases this
    · rw [fup_o e3] at this; exact this
  · have := kn c (by omega) (by omega)
    rw [fup_s] at this; cases this
theorem cons_rem {f : Nat → Bool} {a c b x y : Nat} (h : Cons f a c) (h2 : Cons f c b) (k : Cons (fup f c false) x y) : (x = a ∧ y = b) ∨ (Cons f x y ∧ x ≠ c ∧ y ≠ c) := by
  obtain ⟨ha, hc, hac, hn⟩ := h
  obtain ⟨_, hb, hcb, hn2⟩ := h2
  obtain ⟨kx, ky, kxy, kn⟩ := k
  have nx : x ≠ c := fun e => by subst e; rw [fup_s] at kx; cases kx
  have ny : y ≠ c := fun e => by subst e; rw [fup_s] at ky; cases ky
  rw [fup_o nx] at kx
  rw [fup_o ny] at ky
  by_cases e : x < c ∧ c < y
  · left
    constructor
    · by_cases e1 : x = a
      · exact e1
      by_cases e2 : x < a
      · have := kn a e2 (by omega)
        rw [fup_o (by omega), ha] at this; cases this
      · rw [hn x (by omega) (by omega)] at kx; cases kx
    · by_cases e1 : y = b
      · exact e1
      by_cases e2 : b < y
      · have := kn b (by omega) e2
        rw [fup_o (by omega), hb] at this; cases this
      · rw [hn2 y (by omega) (by omega)] at ky; cases ky
  · right
    refine ⟨⟨kx, ky, kxy, fun d d1 d2 => ?_⟩, nx, ny⟩
    have := kn d d1 d2
    rw [fup_o (by omega)] at this
    exact this
section
variable {P : Nat → Prop} {o : Nat → Nat → Nat → Bool} {m : Nat} {T : Nat → Nat → Prop} {f : Nat → Bool}
theorem abp_b {a b x : Nat} (h : AbP o f x) (hc : Cons f a b) (h1 : a < x) (h2 : x < b) : o a x b = true := by
  rcases h with h | h
  · rw [hc.2.2.2 x h1 h2] at h; cases h
  · exact h a b hc h1 h2
theorem abp_ins (H : SW P o m T) (hp : PathIn T f m) {a c b u : Nat} (hi : Ins o m T f a c b) (h : AbP o f u) : AbP o (fup f c true) u := by
  obtain ⟨hc, h1, h2, k, _, _, em⟩ := hi
  have bm := hp.2.2.1 b hc.2.1
  have C := H.1.1
  have hP := H.1.2.1
  by_cases e : u = c
  · subst e; exact Or.inl (fup_s _ _ _)
  by_cases fu : f u = true
  · exact Or.inl (by rw [fup_o e]; exact fu)
  right
  intro x y hxy hx hy
  have pm := hP m (by omega)
  have pa := hP a (by omega)
  have pb := hP b (by omega)
  have pc := hP c (by omega)
  rcases cons_ins hc h1 h2 hxy with ⟨rfl, rfl⟩ | ⟨rfl, rfl⟩ | ⟨q, _⟩
  · have pu := hP u (by omega)
    have k2 := abp_b h hc hx (by omega)
    exact bt (fun e => tA1 C (sw_ang H hx (by omega)) (sw_ang H h1 (by omega)) (sw_ang H hc.2.2.1 bm) (sw_ang H hy (by omega)) (sw_ang H (by omega : u < b) bm) (sw_ang H h2 bm) k k2 e (em u (by omega)))
  · have pu := hP u (by omega)
    have k2 := abp_b h hc (by omega) hy
    exact bt (fun e => tA2 C (sw_ang H h1 (by omega)) (sw_ang H (by omega : a < u) (by omega)) (sw_ang H hc.2.2.1 bm) (sw_ang H hx (by omega)) (sw_ang H h2 bm) (sw_ang H hy bm) k k2 e (em u (by omega)))
  · exact abp_b h q hx hy
theorem sa_ins (H : SW P o m T) (hp : PathIn T f m) {a c b u v : Nat} (hi : Ins o m T f a c b) (huv : u < v) (hv : v < m) (ht : T u v) (h : SA o f u v) : SA o (fup f c true) u v ∨ (u = a ∧ v = c) ∨ (u = c ∧ v = b) := by
  have hi0 := hi
  obtain ⟨hc, h1, h2, k, tac, tcb, em⟩ := hi
  obtain ⟨hA, hu, hv2, hnc⟩ := h
  have bm := hp.2.2.1 b hc.2.1
  have C := H.1.1
  have hP := H.1.2.1
  have pm := hP m (by omega)
  have pa := hP a (by omega)
  have pb := hP b (by omega)
  have pc := hP c (by omega)
  have pu := hP u (by omega)
  have pv := hP v (by omega)
  by_cases g1 : u = a ∧ v = c
  · exact Or.inr (Or.inl g1)
  by_cases g2 : u = c ∧ v = b
  · exact Or.inr (Or.inr g2)
  left
  refine ⟨?_, abp_ins H hp hi0 hu, abp_ins H hp hi0 hv2, fun q => ?_⟩
  · intro d hd d1 d2
    by_cases e : d = c
    · subst e
      apply bf
      intro kt
      have nac := sw_n H ht tac
      have ncb := sw_n H ht tcb
      have A := fun (i j : Nat) (hij : i < j) (hj : j < m) => sw_ang H hij hj
      by_cases u1 : u < a
      · have ua := hA a hc.1 u1 (by omega)
        by_cases v1 : b < v
        · exact ti1 C (A u a u1 (by omega)) (A u d d1 (by omega)) (A u b (by omega) bm) (A u v huv hv) (A a d h1 (by omega)) (A a b hc.2.2.1 bm) (A a v (by omega) hv) (A d b h2 bm) (A d v d2 hv) (A b v v1 hv) k kt ua (hA b hc.2.1 (by omega) v1) nac ncb
        by_cases v2 : v = b
        · subst v2
          exact ti2 C (A u a u1 (by omega)) (A u d d1 (by omega)) (A u v huv hv) (A a d h1 (by omega)) (A a v hc.2.2.1 bm) (A d v h2 bm) k kt ua nac
        · have vb := abp_b hv2 hc (by omega) (by omega)
          exact ti3 C (A u a u1 (by omega)) (A u d d1 (by omega)) (A u v huv hv) (A u b (by omega) bm) (A a d h1 (by omega)) (A a v (by omega) hv) (A a b hc.2.2.1 bm) (A d v d2 hv) (A d b h2 bm) (A v b (by omega) bm) k kt ua vb (em v (by omega)) nac ncb
      by_cases u2 : u = a
      · subst u2
        by_cases v1 : b < v
        · exact ti4 C (A u d h1 (by omega)) (A u b hc.2.2.1 bm) (A u v huv hv) (A d b h2 bm) (A d v d2 hv) (A b v v1 hv) k kt (hA b hc.2.1 (by omega) v1) ncb
        by_cases v2 : v = b
        · subst v2
          exact hnc hc
        · have vb := abp_b hv2 hc (by omega) (by omega)
          exact ti5 C (A u d h1 (by omega)) (A u v huv hv) (A u b hc.2.2.1 bm) (A d v d2 hv) (A d b h2 bm) (A v b (by omega) bm) k kt vb (em v (by omega)) ncb
      · have ub := abp_b hu hc (by omega) (by omega)
        by_cases v1 : b < v
        · exact ti6 C (A a u (by omega) (by omega)) (A a d h1 (by omega)) (A a b hc.2.2.1 bm) (A a v (by omega) hv) (A u d d1 (by omega)) (A u b (by omega) bm) (A u v huv hv) (A d b h2 bm) (A d v d2 hv) (A b v v1 hv) k kt ub (em u (by omega)) (hA b hc.2.1 (by omega) v1) nac ncb
        by_cases v2 : v = b
        · subst v2
          exact ti7 C (A a u (by omega) (by omega)) (A a d h1 (by omega)) (A a v hc.2.2.1 bm) (A u d d1 (by omega)) (A u v huv hv) (A d v h2 bm) k kt ub (em u (by omega)) nac
        · have vb := abp_b hv2 hc (by omega) (by omega)
          exact ti8 C (A a u (by omega) (by omega)) (A a d h1 (by omega)) (A a v (by omega) hv) (A a b hc.2.2.1 bm) (A u d d1 (by omega)) (A u v huv hv) (A u b (by omega) bm) (A d v d2 hv) (A d b h2 bm) (A v b (by omega) bm) k kt ub vb (em u (by omega)) (em v (by omega)) nac ncb
    · rw [fup_o e] at hd
      exact hA d hd d1 d2
  · rcases cons_ins hc h1 h2 q with q | q | ⟨q, _⟩
    · exact g1 q
    · exact g2 q
    · exact hnc q
theorem abp_rem (H : SW P o m T) (hp : PathIn T f m) {a c b u : Nat} (hi : Rem o m T f a c b) (nu : u ≠ c) (h : AbP o f u) : AbP o (fup f c false) u := by
  obtain ⟨hc, hc2, k, _, em⟩ := hi
  have bm := hp.2.2.1 b hc2.2.1
  have h1 := hc.2.2.1
  have h2 := hc2.2.2.1
  have C := H.1.1
  have hP := H.1.2.1
  by_cases fu : f u = true
  · exact Or.inl (by rw [fup_o nu]; exact fu)
  right
  intro x y hxy hx hy
  have pm := hP m (by omega)
  have pa := hP a (by omega)
  have pb := hP b (by omega)
  have pc := hP c (by omega)
  rcases cons_rem hc hc2 hxy with ⟨rfl, rfl⟩ | ⟨q, _⟩
  · have pu := hP u (by omega)
    by_cases e : u < c
    · have k2 := abp_b h hc hx e
      exact bt (fun e2 => tr5 C (sw_ang H hx (by omega)) (sw_ang H h1 (by omega)) (sw_ang H (by omega : x < y) bm) (sw_ang H e (by omega)) (sw_ang H hy bm) (sw_ang H h2 bm) k k2 (em u (by omega)) e2)
    · have k2 := abp_b h hc2 (by omega) hy
      exact bt (fun e2 => tr6 C (sw_ang H h1 (by omega)) (sw_ang H hx (by omega)) (sw_ang H (by omega : x < y) bm) (sw_ang H (by omega : c < u) (by omega)) (sw_ang H h2 bm) (sw_ang H hy bm) k k2 (em u (by omega)) e2)
  · exact abp_b h q hx hy
theorem sa_rem (H : SW P o m T) (hp : PathIn T f m) {a c b u v : Nat} (hi : Rem o m T f a c b) (huv : u < v) (hv : v < m) (ht : T u v) (h : SA o f u v) : SA o (fup f c false) u v ∨ (u = a ∧ v = b) := by
  have hi0 := hi
  obtain ⟨hc, hc2, k, tab, em⟩ := hi
  obtain ⟨hA, hu, hv2, hnc⟩ := h
  have bm := hp.2.2.1 b hc2.2.1
  have h1 := hc.2.2.1
  have h2 := hc2.2.2.1
  have C := H.1.1
  have hP := H.1.2.1
  have pm := hP m (by omega)
  have pa := hP a (by omega)
  have pb := hP b (by omega)
  have pc := hP c (by omega)
  have pu := hP u (by omega)
  have pv := hP v (by omega)
  have A := fun (i j : Nat) (hij : i < j) (hj : j < m) => sw_ang H hij hj
  by_cases g1 : u = a ∧ v = b
  · exact Or.inr g1
  left
  have nu : u ≠ c := by
    intro e
    subst e
    by_cases v1 : b < v
    · exact tr2 C (A a u h1 (by omega)) (A a b (by omega) bm) (A a v (by omega) hv) (A u b h2 bm) (A u v huv hv) (A b v v1 hv) k (hA b hc2.2.1 h2 v1) (sw_n H ht tab)
    by_cases v2 : v = b
    · subst v2; exact hnc hc2
    · exact tr1 C (A a u h1 (by omega)) (A a v (by omega) hv) (A a b (by omega) bm) (A u v huv hv) (A u b h2 bm) (A v b (by omega) bm) k (abp_b hv2 hc2 huv (by omega)) (sw_n H ht tab) (em v (by omega))
  have nv : v ≠ c := by
    intro e
    subst e
    by_cases u1 : u < a
    · exact tr4 C (A u a u1 (by omega)) (A u v huv hv) (A u b (by omega) bm) (A a v h1 hv) (A a b (by omega) bm) (A v b h2 bm) k (hA a hc.1 u1 h1) (sw_n H ht tab)
    by_cases u2 : u = a
    · subst u2; exact hnc hc
    · exact tr3 C (A a u (by omega) (by omega)) (A a v h1 hv) (A a b (by omega) bm) (A u v huv hv) (A u b (by omega) bm) (A v b h2 bm) k (abp_b hu hc (by omega) huv) (sw_n H ht tab) (em u (by omega))
  refine ⟨?_, abp_rem H hp hi0 nu hu, abp_rem H hp hi0 nv hv2, fun q => ?_⟩
  · intro d hd d1 d2
    have e : d ≠ c := fun e => by subst e; rw [fup_s] at hd; cases hd
    rw [fup_o e] at hd
    exact hA d hd d1 d2
  · rcases cons_rem hc hc2 q with q | ⟨q, _⟩
    · exact g1 q
    · exact hnc q
theorem sa_top (hp : PathIn T f m) (ht : Top o m f) {u v : Nat} (huv : u < v) (hv : v < m) (h : SA o f u v) : (∀ x, x < m → f x = true ∨ ∃ a b, Cons f a b ∧ a < x ∧ x < b ∧ o a x b = false) → False := by
  intro hall
  obtain ⟨hA, hu, hv2, hnc⟩ := h
  have key : ∀ x, x < m → AbP o f x → f x = true := by
    intro x hx h
    rcases hall x hx with h1 | ⟨a, b, hc, h1, h2, k⟩
    · exact h1
    · rw [abp_b h hc h1 h2] at k; cases k
  have fu := key u (by omega) hu
  have fv := key v hv hv2
  obtain ⟨c, hc, _⟩ := cons_next fu hp.2.1 (by omega)
  have uc := hc.2.2.1
  by_cases e1 : c = v
  · subst e1; exact hnc hc
  by_cases e2 : c < v
  · have := hA c hc.2.1 uc e2
    rw [ht u c hc v hv (by omega) (by omega)] at this; cases this
  · rw [hc.2.2.2 v huv (by omega)] at fv; cases fv
end
