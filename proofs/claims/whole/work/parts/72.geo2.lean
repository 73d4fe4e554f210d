/-! Nets over points with coordinates: triangles, flips, at most 800 of them. -/
section
variable {o : Nat → Nat → Nat → Bool} {l l' : List Nat} {M M' : Nat → Nat → Prop}
theorem net_mem (h : ∀ x, x ∈ l ↔ x ∈ l') (N : Net o l M) : Net o l' M :=
  ⟨fun a b q => ⟨(h a).mp (N.1 a b q).1, (h b).mp (N.1 a b q).2.1, (N.1 a b q).2.2⟩, N.2.1, fun a b ha hb => N.2.2 a b ((h a).mpr ha) ((h b).mpr hb)⟩
theorem fp_mem (h : ∀ x, x ∈ l ↔ x ∈ l') (N : FP o l M) : FP o l' M := by
  intro a b hab hq
  obtain ⟨q, hq1, hq2⟩ := hq
  obtain ⟨w, w1, w2, w3, w4, w5, w6, w7⟩ := N a b hab ⟨q, (h q).mpr hq1, hq2⟩
  exact ⟨w, (h w).mp w1, w2, w3, w4, w5, w6, fun q hq => w7 q ((h q).mpr hq)⟩
theorem step_mem (h : ∀ x, x ∈ l ↔ x ∈ l') (N : Step o l M M') : Step o l' M M' := by
  obtain ⟨a, b, c, d, s1, s2, s3, s4⟩ := N
  exact ⟨a, b, c, d, s1, (h c).mp s2, (h d).mp s3, s4⟩
theorem fs_mem (h : ∀ x, x ∈ l ↔ x ∈ l') (N : FS o l M M') : FS o l' M M' := fun Q q c =>
  N Q q (fun A B nA nB qA st => c A B (net_mem h nA) (net_mem h nB) qA (step_mem h st))
end
section
variable {X Y : Nat → Int} {n : Nat}
/-- the points are apart -/
def Dist (X Y : Nat → Int) (n : Nat) : Prop := ∀ a b, a < n → b < n → a ≠ b → X a ≠ X b ∨ Y a ≠ Y b
theorem exts_xy (h : GP X Y n) : ∀ l : List Nat, (∀ x, x ∈ l → x < n) → l.Pairwise (fun x y => ahd X Y y x) → l.Nodup → Exts (oXY X Y) l
  | [], _, _, _ => trivial
  | p :: S, hl, hp, nd => by
    obtain ⟨h1, h2⟩ := List.pairwise_cons.mp hp
    obtain ⟨n1, n2⟩ := List.nodup_cons.mp nd
    exact ⟨ext_xy h (hl p List.mem_cons_self) (fun a ha => ⟨hl a (List.mem_cons_of_mem _ ha), fun e => n1 (e ▸ ha), h1 a ha⟩), exts_xy h S (fun x hx => hl x (List.mem_cons_of_mem _ hx)) h2 n2⟩
theorem xy_sorted (hd : Dist X Y n) : ∃ l : List Nat, l.Nodup ∧ l.length = n ∧ (∀ x, x ∈ l ↔ x ∈ List.range n) ∧ l.Pairwise (fun x y => ahd X Y y x) := by
  obtain ⟨l, l1, l2, l3, l4⟩ := ex_sorted (R := ahd X Y) (fun x => ahd_irr) (fun x y z => ahd_tr) n (List.range n) (by simp) List.nodup_range (fun x y hx hy nxy => ahd_tot (hd x y (List.mem_range.mp hx) (List.mem_range.mp hy) nxy))
  exact ⟨l, l1, by simpa using l2, l3, l4⟩
theorem geo_main (h : GP X Y n) (hd : Dist X Y n) : (∀ M, Net (oXY X Y) (List.range n) M → FP (oXY X Y) (List.range n) M) ∧ (∀ M M', Net (oXY X Y) (List.range n) M → Net (oXY X Y) (List.range n) M' → FS (oXY X Y) (List.range n) M M') := by
  obtain ⟨l, l1, l2, l3, l4⟩ := xy_sorted hd
  have hl : ∀ x, x ∈ l → x < n := fun x hx => List.mem_range.mp ((l3 x).mp hx)
  obtain ⟨f, g⟩ := net_main (cc_xy h) l hl l1 (exts_xy h l hl l4 l1)
  have back : ∀ x, x ∈ List.range n ↔ x ∈ l := fun x => (l3 x).symm
  exact ⟨fun M N => fp_mem l3 (f M (net_mem back N)), fun M M' N N' => fs_mem l3 (g M M' (net_mem back N) (net_mem back N'))⟩
end
/-! other numbers for the points -/
section
variable {P : Nat → Prop} {o : Nat → Nat → Nat → Bool} {p m : Nat} {S : List Nat} {M : Nat → Nat → Prop} {s : Nat → Nat}
/-- s numbers S from 0 to m - 1, and p as m -/
def Numb (p m : Nat) (S : List Nat) (s : Nat → Nat) : Prop := s m = p ∧ p ∉ S ∧ (∀ i, i < m → s i ∈ S) ∧ (∀ i j, i < m → j < m → i ≠ j → s i ≠ s j) ∧ ∀ x, x ∈ S → ∃ i, i < m ∧ s i = x
theorem nb_in (H : Numb p m S s) {i : Nat} (h : i ≤ m) : s i ∈ p :: S := by
  by_cases e : i = m
  · rw [e, H.1]; exact List.mem_cons_self
  · exact List.mem_cons_of_mem _ (H.2.2.1 i (by omega))
theorem nb_ne (H : Numb p m S s) {i j : Nat} (hi : i ≤ m) (hj : j ≤ m) (n : i ≠ j) : s i ≠ s j := by
  by_cases e : i = m
  · subst e
    rw [H.1]
    exact fun q => H.2.1 (q ▸ H.2.2.1 j (by omega))
  by_cases e2 : j = m
  · subst e2
    rw [H.1]
    exact fun q => H.2.1 (q ▸ H.2.2.1 i (by omega))
  exact H.2.2.2.1 i j (by omega) (by omega) n
theorem nb_sur (H : Numb p m S s) {x : Nat} (h : x ∈ p :: S) : ∃ i, i ≤ m ∧ s i = x := by
  rcases List.mem_cons.mp h with e | e
  · exact ⟨m, Nat.le_refl _, by rw [H.1, e]⟩
  · obtain ⟨i, hi, he⟩ := H.2.2.2.2 x e
    exact ⟨i, by omega, he⟩
def nbO (o : Nat → Nat → Nat → Bool) (s : Nat → Nat) : Nat → Nat → Nat → Bool := fun a b c => o (s a) (s b) (s c)
def nbM (m : Nat) (M : Nat → Nat → Prop) (s : Nat → Nat) : Nat → Nat → Prop := fun a b => a ≤ m ∧ b ≤ m ∧ M (s a) (s b)
theorem nb_crs (H : Numb p m S s) {a b c d : Nat} (ha : a ≤ m) (hb : b ≤ m) (hc : c ≤ m) (hd : d ≤ m) : crs (nbO o s) a b c d = crs o (s a) (s b) (s c) (s d) := by
  have e : ∀ {i j}, i ≤ m → j ≤ m → (i != j) = (s i != s j) := by
    intro i j hi hj
    by_cases q : i = j
    · subst q; simp
    · rw [bne_iff_ne.mpr q, bne_iff_ne.mpr (nb_ne H hi hj q)]
  unfold crs nbO
  rw [e ha hc, e ha hd, e hb hc, e hb hd]
theorem nb_wit (H : Numb p m S s) {q a b c : Nat} (hq : q ≤ m) (ha : a ≤ m) (hb : b ≤ m) (hc : c ≤ m) : wit (nbO o s) q a b c = wit o (s q) (s a) (s b) (s c) := by
  have e : ∀ {i j}, i ≤ m → j ≤ m → (i != j) = (s i != s j) := by
    intro i j hi hj
    by_cases q : i = j
    · subst q; simp
    · rw [bne_iff_ne.mpr q, bne_iff_ne.mpr (nb_ne H hi hj q)]
  unfold wit nbO
  rw [e hq ha, e hq hb, e hq hc]
theorem nb_cc (C : CC P o) (hl : ∀ x, x ∈ p :: S → P x) (H : Numb p m S s) : CC (fun x => x ≤ m) (nbO o s) := by
  have pp : ∀ {i}, i ≤ m → P (s i) := fun h => hl _ (nb_in H h)
  refine ⟨fun a b c pa pb pc n1 n2 n3 => C.1 _ _ _ (pp pa) (pp pb) (pp pc) (nb_ne H pa pb n1) (nb_ne H pa pc n2) (nb_ne H pb pc n3), ?_, ?_⟩
  · intro a b c d pa pb pc pd n1 n2 n3 n4 n5 n6
    exact C.2.1 _ _ _ _ (pp pa) (pp pb) (pp pc) (pp pd) (nb_ne H pa pb n1) (nb_ne H pa pc n2) (nb_ne H pa pd n3) (nb_ne H pb pc n4) (nb_ne H pb pd n5) (nb_ne H pc pd n6)
  · intro t a b c d pt pa pb pc pd m1 m2 m3 m4 n1 n2 n3 n4 n5 n6
    exact C.2.2 _ _ _ _ _ (pp pt) (pp pa) (pp pb) (pp pc) (pp pd) (nb_ne H pt pa m1) (nb_ne H pt pb m2) (nb_ne H pt pc m3) (nb_ne H pt pd m4) (nb_ne H pa pb n1) (nb_ne H pa pc n2) (nb_ne H pa pd n3) (nb_ne H pb pc n4) (nb_ne H pb pd n5) (nb_ne H pc pd n6)
theorem nb_net (H : Numb p m S s) (N : Net o (p :: S) M) : Net (nbO o s) (m :: List.range m) (nbM m M s) := by
  refine ⟨fun a b h => ?_, fun a b c d h k => ?_, fun a b ha hb nab h => ?_⟩
  · obtain ⟨ha, hb, hM⟩ := h
    obtain ⟨_, _, n, sy⟩ := N.1 _ _ hM
    exact ⟨sw_l ha, sw_l hb, fun e => n (by rw [e]), hb, ha, sy⟩
  · rw [nb_crs H h.1 h.2.1 k.1 k.2.1]
    exact N.2.1 _ _ _ _ h.2.2 k.2.2
  · have ha := sw_m ha
    have hb := sw_m hb
    refine ⟨ha, hb, N.2.2 _ _ (nb_in H ha) (nb_in H hb) (nb_ne H ha hb nab) (fun c d hcd => ?_)⟩
    obtain ⟨cl, dl, _, _⟩ := N.1 c d hcd
    obtain ⟨i, hi, rfl⟩ := nb_sur H cl
    obtain ⟨j, hj, rfl⟩ := nb_sur H dl
    rw [← nb_crs H ha hb hi hj]
    exact h i j ⟨hi, hj, hcd⟩
theorem nb_fp (H : Numb p m S s) (N : Net o (p :: S) M) (F : FP o (p :: S) M) : FP (nbO o s) (m :: List.range m) (nbM m M s) := by
  intro a b hab hq
  obtain ⟨ha, hb, hM⟩ := hab
  obtain ⟨q, ql, qa, qb, qo⟩ := hq
  have qm := sw_m ql
  obtain ⟨w, w1, w2, w3, w4, w5, w6, w7⟩ := F _ _ hM ⟨s q, nb_in H qm, nb_ne H qm ha qa, nb_ne H qm hb qb, qo⟩
  obtain ⟨i, hi, rfl⟩ := nb_sur H w1
  refine ⟨i, sw_l hi, fun e => w2 (by rw [e]), fun e => w3 (by rw [e]), w4, ⟨ha, hi, w5⟩, ⟨hb, hi, w6⟩, fun r rl => ?_⟩
  have rm := sw_m rl
  rw [nb_wit H rm ha hb hi]
  exact w7 _ (nb_in H rm)
/-- round an extreme point the others can be numbered in their order -/
theorem ex_numb (C : CC P o) (hl : ∀ x, x ∈ p :: S → P x) (hp : p ∉ S) (nd : S.Nodup) (hE : Ext o p S) : ∃ s, Numb p S.length S s ∧ ∀ i j, i < j → j < S.length → nbO o s S.length i j = true := by
  have hl2 : ∀ x, x ∈ S → P x ∧ p ≠ x := fun x hx => ⟨hl x (List.mem_cons_of_mem _ hx), fun e => hp (e ▸ hx)⟩
  have pp : P p := hl p List.mem_cons_self
  have asym : ∀ {x y}, x ∈ S → y ∈ S → x ≠ y → o p x y = true → o p y x = false := by
    intro x y hx hy n h
    rw [cr4 C pp (hl2 x hx).1 (hl2 y hy).1 (hl2 x hx).2 (hl2 y hy).2 n, h]; rfl
  obtain ⟨r, r1, r2, r3, r4⟩ := ex_sorted (R := fun x y => x ∈ S ∧ y ∈ S ∧ x ≠ y ∧ o p y x = true) (fun x h => h.2.2.1 rfl) (fun x y z h k => by
    obtain ⟨hx, hy, n, h⟩ := h
    obtain ⟨_, hz, n2, k⟩ := k
    have nxz : x ≠ z := by
      intro e
      subst e
      rw [asym hx hy n k] at h; cases h
    exact ⟨hx, hz, nxz, hE z y x hz hy hx n2.symm nxz.symm n.symm k h⟩) S.length S (Nat.le_refl _) nd (fun x y hx hy n => by
    cases e : o p y x with
    | true => exact Or.inl ⟨hx, hy, n, rfl⟩
    | false =>
      refine Or.inr ⟨hy, hx, n.symm, ?_⟩
      rw [cr4 C pp (hl2 y hy).1 (hl2 x hx).1 (hl2 y hy).2 (hl2 x hx).2 n.symm, e]; rfl)
  let s : Nat → Nat := fun i => r.getD i p
  have sl : ∀ i (h : i < r.length), s i = r[i] := fun i h => by simp [s, List.getD, h]
  have sm : s S.length = p := by
    show r.getD S.length p = p
    rw [← r2]
    simp [List.getD]
  refine ⟨s, ⟨sm, hp, fun i hi => ?_, fun i j hi hj n => ?_, fun x hx => ?_⟩, fun i j hij hj => ?_⟩
  · rw [sl i (by omega)]
    exact (r3 _).mp (List.getElem_mem _)
  · rw [sl i (by omega), sl j (by omega)]
    intro e
    exact n ((List.getElem_inj r1).mp e)
  · obtain ⟨i, hi, he⟩ := List.getElem_of_mem ((r3 x).mpr hx)
    exact ⟨i, by omega, by rw [sl i hi]; exact he⟩
  · show o (s S.length) (s i) (s j) = true
    rw [sm, sl i (by omega), sl j (by omega)]
    exact (List.pairwise_iff_getElem.mp r4 i j (by omega) (by omega) hij).2.2.2
end
