/-! The count of nets that share a beginning. -/
def AdvAt (o : Nat → Nat → Nat → Bool) (m : Nat) (T : Nat → Nat → Prop) (f : Nat → Bool) (c : Nat) : Prop := (∃ a b, Ins o m T f a c b) ∨ (∃ a b, Rem o m T f a c b)
/-- which advance comes first: i for i + 1, m - 2 for none -/
def ChS (o : Nat → Nat → Nat → Bool) (m : Nat) (T : Nat → Nat → Prop) (f : Nat → Bool) (i : Nat) : Prop := (i = m - 2 ∧ ∀ c, ¬ AdvAt o m T f c) ∨ (i < m - 2 ∧ AdvAt o m T f (i + 1) ∧ ∀ c, AdvAt o m T f c → keyC f (i + 1) ≤ keyC f c)
section
variable {P : Nat → Prop} {o : Nat → Nat → Nat → Bool} {m : Nat} {T : Nat → Nat → Prop} {f : Nat → Bool}
theorem adv_in (hp : PathIn T f m) {c : Nat} (h : AdvAt o m T f c) : 0 < c ∧ c < m - 1 := by
  rcases h with ⟨a, b, h⟩ | ⟨a, b, h⟩
  · have := hp.2.2.1 b h.1.2.1
    have := h.2.1
    have := h.2.2.1
    omega
  · have := hp.2.2.1 b h.2.1.2.1
    have := h.1.2.2.1
    have := h.2.1.2.2.1
    omega
theorem ch_ex (hp : PathIn T f m) : ∃ i, ChS o m T f i := by
  by_cases h : ∃ c, AdvAt o m T f c
  · obtain ⟨c, hc⟩ := h
    have hcm := adv_in hp hc
    obtain ⟨d, hd, hda, hmin⟩ := ex_min (X := fun x => AdvAt o m T f x) (R := fun x y => keyC f x < keyC f y) (fun x _ r => Nat.lt_irrefl _ r) (fun x y z _ _ _ r s => Nat.lt_trans r s) (List.range m) ⟨c, List.mem_range.mpr (by omega), hc⟩
    have hdm := adv_in hp hda
    have e : d - 1 + 1 = d := by omega
    refine ⟨d - 1, Or.inr ⟨by omega, by rw [e]; exact hda, fun x hx => ?_⟩⟩
    have hxm := adv_in hp hx
    rw [e]
    have := hmin x (List.mem_range.mpr (by omega)) hx
    omega
  · exact ⟨m - 2, Or.inl ⟨rfl, fun c hc => h ⟨c, hc⟩⟩⟩
theorem ins_ab (hp : PathIn T f m) {a c b : Nat} (h : Ins o m T f a c b) : a = prv f c ∧ b = nxt f m c ∧ f c = false := by
  have bm := hp.2.2.1 b h.1.2.1
  exact ⟨(prv_in h.1 h.2.1 h.2.2.1).symm, (nxt_in h.1 h.2.1 h.2.2.1 bm).symm, h.1.2.2.2 c h.2.1 h.2.2.1⟩
theorem rem_ab (hp : PathIn T f m) {a c b : Nat} (h : Rem o m T f a c b) : a = prv f c ∧ b = nxt f m c ∧ f c = true := by
  have bm := hp.2.2.1 b h.2.1.2.1
  exact ⟨(prv_at h.1).symm, (nxt_at h.2.1 bm).symm, h.1.2.1⟩
theorem adv_path (H : SW P o m T) (hp : PathIn T f m) {c : Nat} (h : AdvAt o m T f c) : PathIn T (fup f c (!f c)) m := by
  obtain ⟨c1, c2⟩ := adv_in hp h
  refine ⟨by rw [fup_o (by omega)]; exact hp.1, by rw [fup_o (by omega)]; exact hp.2.1, fun i hi => ?_, ?_⟩
  · by_cases e : i = c
    · omega
    · rw [fup_o e] at hi; exact hp.2.2.1 i hi
  · rcases h with ⟨a, b, h⟩ | ⟨a, b, h⟩
    · rw [(ins_ab hp h).2.2]
      intro x y hxy
      rcases cons_ins h.1 h.2.1 h.2.2.1 hxy with ⟨rfl, rfl⟩ | ⟨rfl, rfl⟩ | ⟨q, _⟩
      · exact h.2.2.2.2.1
      · exact h.2.2.2.2.2.1
      · exact hp.2.2.2 x y q
    · rw [(rem_ab hp h).2.2]
      intro x y hxy
      rcases cons_rem h.1 h.2.1 hxy with ⟨rfl, rfl⟩ | ⟨q, _⟩
      · exact h.2.2.2.1
      · exact hp.2.2.2 x y q
theorem adv_phi (H : SW P o m T) (hp : PathIn T f m) {c : Nat} (h : AdvAt o m T f c) : Phi o m (fup f c (!f c)) < Phi o m f := by
  rcases h with ⟨a, b, h⟩ | ⟨a, b, h⟩
  · rw [(ins_ab hp h).2.2]; exact phi_ins H hp h
  · rw [(rem_ab hp h).2.2]; exact phi_rem H hp h
theorem adv_ok (H : SW P o m T) (hp : PathIn T f m) {c : Nat} (h : AdvAt o m T f c) : okC o m f c = true := by
  unfold okC
  rcases h with ⟨a, b, h⟩ | ⟨a, b, h⟩
  · obtain ⟨e1, e2, e3⟩ := ins_ab hp h
    rw [e3, ← e1, ← e2]; exact okI_of H hp h
  · obtain ⟨e1, e2, e3⟩ := rem_ab hp h
    rw [e3, ← e1, ← e2]; exact okR_of H hp h
theorem adv_key (hp : PathIn T f m) {c : Nat} (h : AdvAt o m T f c) : 2 * prv f c ≤ keyC f c := by
  unfold keyC
  rcases h with ⟨a, b, h⟩ | ⟨a, b, h⟩
  · obtain ⟨e1, e2, e3⟩ := ins_ab hp h
    rw [e3]; show _ ≤ 2 * prv f c + 1; omega
  · obtain ⟨e1, e2, e3⟩ := rem_ab hp h
    have := h.1.2.2.1
    rw [e3, ← e1]; show _ ≤ 2 * c; omega
theorem prv_lt (hp : PathIn T f m) {c : Nat} (h : AdvAt o m T f c) : f (prv f c) = true ∧ prv f c < c := by
  rcases h with ⟨a, b, h⟩ | ⟨a, b, h⟩
  · rw [← (ins_ab hp h).1]; exact ⟨h.1.1, h.2.1⟩
  · rw [← (rem_ab hp h).1]; exact ⟨h.1.1, h.1.2.2.1⟩
theorem cons_low {c a x y : Nat} {v : Bool} (ha : f a = true) (hac : a < c) (h : Cons (fup f c v) x y) (hx : x < a) : Cons f x y ∧ y ≤ a := by
  have hy : y ≤ a := by
    apply Classical.byContradiction
    intro hn
    have := h.2.2.2 a hx (by omega)
    rw [fup_o (by omega), ha] at this; cases this
  refine ⟨⟨?_, ?_, h.2.2.1, fun d d1 d2 => ?_⟩, hy⟩
  · have := h.1; rw [fup_o (by omega)] at this; exact this
  · have := h.2.1; rw [fup_o (by omega)] at this; exact this
  · have := h.2.2.2 d d1 d2; rw [fup_o (by omega)] at this; exact this
/-- after the first advance none begins further ahead -/
theorem adv_mark (H : SW P o m T) (hp : PathIn T f m) {c : Nat} (h : AdvAt o m T f c) (hmin : ∀ d, AdvAt o m T f d → keyC f c ≤ keyC f d) : ∀ d, AdvAt o m T (fup f c (!f c)) d → 2 * prv f c ≤ keyC (fup f c (!f c)) d := by
  intro d hd
  obtain ⟨pa, plt⟩ := prv_lt hp h
  have hk := adv_key hp h
  have hp2 := adv_path H hp h
  apply Classical.byContradiction
  intro hn
  unfold keyC at hn
  rcases hd with ⟨a, b, hd⟩ | ⟨a, b, hd⟩
  · obtain ⟨e1, e2, e3⟩ := ins_ab hp2 hd
    rw [e3, ← e1] at hn
    have hn : ¬ 2 * prv f c ≤ 2 * a + 1 := hn
    obtain ⟨q, _⟩ := cons_low pa plt hd.1 (by omega)
    have hd2 : Ins o m T f a d b := ⟨q, hd.2⟩
    have := hmin d (Or.inl ⟨a, b, hd2⟩)
    obtain ⟨f1, f2, f3⟩ := ins_ab hp hd2
    have e4 : keyC f d = 2 * a + 1 := by unfold keyC; rw [f3, ← f1]; rfl
    omega
  · obtain ⟨e1, e2, e3⟩ := rem_ab hp2 hd
    rw [e3] at hn
    have hn : ¬ 2 * prv f c ≤ 2 * d := hn
    have hlt := hd.1.2.2.1
    obtain ⟨q1, _⟩ := cons_low pa plt hd.1 (by omega)
    obtain ⟨q2, _⟩ := cons_low pa plt hd.2.1 (by omega)
    have hd2 : Rem o m T f a d b := ⟨q1, q2, hd.2.2⟩
    have := hmin d (Or.inr ⟨a, b, hd2⟩)
    obtain ⟨f1, f2, f3⟩ := rem_ab hp hd2
    have e4 : keyC f d = 2 * d := by unfold keyC; rw [f3]; rfl
    omega
theorem adv_sa (H : SW P o m T) (hp : PathIn T f m) {c u v : Nat} (h : AdvAt o m T f c) (huv : u < v) (hv : v < m) (ht : T u v) (hs : SA o f u v) (hn : ¬ SA o (fup f c (!f c)) u v) : ∀ T', PathIn T' f m → AdvAt o m T' f c → T' u v := by
  intro T' hp' h'
  rcases h with ⟨a, b, h⟩ | ⟨a, b, h⟩
  · obtain ⟨e1, e2, e3⟩ := ins_ab hp h
    rw [e3] at hn
    rcases h' with ⟨a', b', h'⟩ | ⟨a', b', h'⟩
    · obtain ⟨f1, f2, f3⟩ := ins_ab hp' h'
      have ea : a' = a := f1.trans e1.symm
      have eb : b' = b := f2.trans e2.symm
      subst ea; subst eb
      rcases sa_ins H hp h huv hv ht hs with q | ⟨rfl, rfl⟩ | ⟨rfl, rfl⟩
      · exact (hn q).elim
      · exact h'.2.2.2.2.1
      · exact h'.2.2.2.2.2.1
    · rw [(rem_ab hp' h').2.2] at e3; cases e3
  · obtain ⟨e1, e2, e3⟩ := rem_ab hp h
    rw [e3] at hn
    rcases h' with ⟨a', b', h'⟩ | ⟨a', b', h'⟩
    · rw [(ins_ab hp' h').2.2] at e3; cases e3
    · obtain ⟨f1, f2, f3⟩ := rem_ab hp' h'
      have ea : a' = a := f1.trans e1.symm
      have eb : b' = b := f2.trans e2.symm
      subst ea; subst eb
      rcases sa_rem H hp h huv hv ht hs with q | ⟨rfl, rfl⟩
      · exact (hn q).elim
      · exact h'.2.2.2.1
/-- a row of nets that are alike up to the path f -/
def Alike {α : Type} (P : Nat → Prop) (o : Nat → Nat → Nat → Bool) (m : Nat) (E : α → Nat → Nat → Prop) (f : Nat → Bool) (k : Nat) (ts : List α) : Prop :=
  (∀ t, t ∈ ts → SW P o m (E t)) ∧ (∀ t, t ∈ ts → PathIn (E t) f m) ∧ (∀ t, t ∈ ts → ∀ c, AdvAt o m (E t) f c → k ≤ keyC f c) ∧
  (∀ s t, s ∈ ts → t ∈ ts → ∀ u v, u < v → v < m → E s u v → ¬ SA o f u v → E t u v) ∧ (∀ s t, s ∈ ts → t ∈ ts → ∀ i, E s m i → E t m i) ∧
  ts.Nodup ∧ (∀ s t, s ∈ ts → t ∈ ts → (∀ u v, E s u v → E t u v) → s = t)
theorem len_one {α : Type} : ∀ ts : List α, ts.Nodup → (∀ s t, s ∈ ts → t ∈ ts → s = t) → ts.length ≤ 1
  | [], _, _ => by simp
  | [a], _, _ => by simp
  | a :: b :: r, nd, h => by
    have e := h a b List.mem_cons_self (List.mem_cons_of_mem _ List.mem_cons_self)
    have := (List.nodup_cons.mp nd).1
    rw [e] at this
    exact (this List.mem_cons_self).elim
theorem alike_none {α : Type} {E : α → Nat → Nat → Prop} {k : Nat} {ts : List α} (hm : 2 ≤ m) (A : Alike P o m E f k ts) (h : ∀ t, t ∈ ts → ∀ c, ¬ AdvAt o m (E t) f c) : ts.length ≤ cond (topC o m f) 1 0 := by
  obtain ⟨h1, h2, h3, h4, h5, h6, h7⟩ := A
  cases ts with
  | nil => simp
  | cons t0 r =>
    have m0 : t0 ∈ t0 :: r := List.mem_cons_self
    have top : ∀ t, t ∈ t0 :: r → Top o m f := by
      intro t ht
      rcases sw_go (h1 t ht) (h2 t ht) with ⟨a, c, b, q⟩ | ⟨a, c, b, q⟩ | q
      · exact (h t ht c (Or.inl ⟨a, b, q⟩)).elim
      · exact (h t ht c (Or.inr ⟨a, b, q⟩)).elim
      · exact q
    rw [topC_of (h1 t0 m0) (h2 t0 m0) (top t0 m0)]
    refine len_one _ h6 (fun s t hs ht => h7 s t hs ht (fun u v huv => ?_))
    have Hs := h1 s hs
    have C := Hs.1.1
    have hP := Hs.1.2.1
    have low : ∀ u v, u < v → v < m → E s u v → E t u v := by
      intro u v huv hv he
      refine h4 s t hs ht u v huv hv he (fun hsa => sa_top (h2 s hs) (top s hs) huv hv hsa (fun x hx => ?_))
      cases fx : f x with
      | true => exact Or.inl rfl
      | false =>
        have x0 : x ≠ 0 := fun e => by rw [e, (h2 s hs).1] at fx; cases fx
        have x1 : x ≠ m - 1 := fun e => by rw [e, (h2 s hs).2.1] at fx; cases fx
        obtain ⟨a, b, hc, a1, b1, bm⟩ := cons_span (h2 s hs).1 (h2 s hs).2.1 (by omega) (by omega) fx
        refine Or.inr ⟨a, b, hc, a1, b1, ?_⟩
        rw [cr4 C (hP a (by omega)) (hP b (by omega)) (hP x (by omega)) (by omega) (by omega) (by omega), top s hs a b hc x hx (by omega) (by omega)]
        rfl
    obtain ⟨ul, vl, nuv, hvu⟩ := Hs.2.1.1 u v huv
    have um := sw_m ul
    have vm := sw_m vl
    by_cases e1 : u = m
    · rw [e1] at huv ⊢; exact h5 s t hs ht v huv
    by_cases e2 : v = m
    · rw [e2] at hvu ⊢; exact sw_sym (h1 t ht) (h5 s t hs ht u hvu)
    by_cases e3 : u < v
    · exact low u v e3 (by omega) huv
    · exact sw_sym (h1 t ht) (low v u (by omega) (by omega) hvu)
theorem alike_sub {α : Type} {E : α → Nat → Nat → Prop} {k : Nat} {ts : List α} (A : Alike P o m E f k ts) (q : α → Bool) : Alike P o m E f k (ts.filter q) := by
  obtain ⟨h1, h2, h3, h4, h5, h6, h7⟩ := A
  have sub : ∀ t, t ∈ ts.filter q → t ∈ ts := fun t h => (List.mem_filter.mp h).1
  exact ⟨fun t h => h1 t (sub t h), fun t h => h2 t (sub t h), fun t h => h3 t (sub t h), fun s t hs ht => h4 s t (sub s hs) (sub t ht), fun s t hs ht => h5 s t (sub s hs) (sub t ht), h6.filter q, fun s t hs ht => h7 s t (sub s hs) (sub t ht)⟩
theorem alike_adv {α : Type} {E : α → Nat → Nat → Prop} {k c : Nat} {ts : List α} (A : Alike P o m E f k ts) (h : ∀ t, t ∈ ts → AdvAt o m (E t) f c ∧ ∀ d, AdvAt o m (E t) f d → keyC f c ≤ keyC f d) : Alike P o m E (fup f c (!f c)) (2 * prv f c) ts := by
  obtain ⟨h1, h2, h3, h4, h5, h6, h7⟩ := A
  refine ⟨h1, fun t ht => adv_path (h1 t ht) (h2 t ht) (h t ht).1, fun t ht => adv_mark (h1 t ht) (h2 t ht) (h t ht).1 (h t ht).2, ?_, h5, h6, h7⟩
  intro s t hs ht u v huv hv he hn
  by_cases q : SA o f u v
  · exact adv_sa (h1 s hs) (h2 s hs) (h s hs).1 huv hv he q hn (E t) (h2 t ht) (h t ht).1
  · exact h4 s t hs ht u v huv hv he q
theorem cnt {α : Type} {E : α → Nat → Nat → Prop} (hm : 2 ≤ m) : ∀ (n : Nat) (f : Nat → Bool) (k : Nat) (ts : List α), Alike P o m E f k ts → Phi o m f ≤ n → ts.length ≤ Gcnt o m n f k := by
  intro n
  induction n with
  | zero =>
    intro f k ts A hphi
    refine alike_none hm A (fun t ht c hc => ?_)
    have := adv_phi (A.1 t ht) (A.2.1 t ht) hc
    omega
  | succ n ih =>
    intro f k ts A hphi
    let ch : α → Nat := fun t => Classical.epsilon (fun i => ChS o m (E t) f i)
    have hch : ∀ t, t ∈ ts → ChS o m (E t) f (ch t) := fun t ht => Classical.epsilon_spec (ch_ex (A.2.1 t ht))
    have hlt : ∀ t, t ∈ ts → ch t < m - 2 + 1 := by
      intro t ht
      rcases hch t ht with q | q
      · have := q.1; omega
      · have := q.1; omega
    rw [split_len ch ts (m - 2 + 1) hlt]
    unfold Gcnt
    show sumR _ (m - 2) + _ ≤ _
    rw [Nat.add_comm]
    refine Nat.add_le_add ?_ (sumR_le _ (fun i hi => ?_))
    · refine alike_none hm (alike_sub A _) (fun t ht => ?_)
      obtain ⟨ht1, ht2⟩ := List.mem_filter.mp ht
      have ht2 := of_decide_eq_true ht2
      rcases hch t ht1 with q | q
      · exact q.2
      · have := q.1; omega
    · have B : Alike P o m E f k (ts.filter (fun t => decide (ch t = i))) := alike_sub A _
      have hB : ∀ t, t ∈ ts.filter (fun t => decide (ch t = i)) → AdvAt o m (E t) f (i + 1) ∧ ∀ d, AdvAt o m (E t) f d → keyC f (i + 1) ≤ keyC f d := by
        intro t ht
        obtain ⟨ht1, ht2⟩ := List.mem_filter.mp ht
        have ht2 : ch t = i := of_decide_eq_true ht2
        rcases hch t ht1 with q | q
        · have := q.1; omega
        · rw [ht2] at q; exact q.2
      generalize hg : ts.filter (fun t => decide (ch t = i)) = ts' at B hB
      cases ts' with
      | nil => simp
      | cons t0 r =>
        have m0 : t0 ∈ t0 :: r := List.mem_cons_self
        have a0 := (hB t0 m0).1
        have k0 : Nat.ble k (keyC f (i + 1)) = true := Nat.ble_eq.mpr (B.2.2.1 t0 m0 _ a0)
        rw [k0, adv_ok (B.1 t0 m0) (B.2.1 t0 m0) a0]
        have p0 := adv_phi (B.1 t0 m0) (B.2.1 t0 m0) a0
        exact ih _ _ _ (alike_adv B hB) (by omega)
end
