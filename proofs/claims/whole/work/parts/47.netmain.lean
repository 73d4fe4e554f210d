/-! The main theorem on nets. -/
def Exts (o : Nat → Nat → Nat → Bool) : List Nat → Prop
  | [] => True
  | p :: S => Ext o p S ∧ Exts o S
section
variable {P : Nat → Prop} {o : Nat → Nat → Nat → Bool} {p : Nat} {S : List Nat} {M : Nat → Nat → Prop}
theorem fs_refl {l : List Nat} (M : Nat → Nat → Prop) : FS o l M M := fun _ h _ => h
theorem fs_tr {l : List Nat} {A B D : Nat → Nat → Prop} (h : FS o l A B) (k : FS o l B D) : FS o l A D := fun Q q c => k Q (h Q q c) c
theorem fs_one {l : List Nat} {A B : Nat → Nat → Prop} (na : Net o l A) (nb : Net o l B) (h : Step o l A B) : FS o l A B := fun _ q c => c A B na nb q h
theorem step_sym (C : CC P o) {l : List Nat} (hl : ∀ x, x ∈ l → P x) {A B : Nat → Nat → Prop} (na : Net o l A) (nb : Net o l B) (h : Step o l A B) : Step o l B A := by
  obtain ⟨a, b, c, d, hab, hc, hd, ncd, hx, only, hB⟩ := h
  obtain ⟨al, bl, nab, hba⟩ := na.1 a b hab
  have hcd : B c d := (hB c d).mpr (Or.inr (Or.inl ⟨rfl, rfl⟩))
  have hx2 : crs o a b c d = true := by rw [crs_sw]; exact hx
  obtain ⟨m1, m2, m3, m4⟩ := crs_d hx2
  refine ⟨c, d, a, b, hcd, al, bl, nab, hx2, ?_, ?_⟩
  · intro u v huv hx3
    rcases (hB u v).mp huv with ⟨h1, _⟩ | h1
    · have := na.2.1 a b u v hab h1
      rw [hx3] at this; cases this
    · exact h1
  · intro x y
    constructor
    · intro h
      by_cases e : (x = a ∧ y = b) ∨ (x = b ∧ y = a)
      · exact Or.inr e
      · refine Or.inl ⟨(hB x y).mpr (Or.inl ⟨h, e⟩), fun q => ?_⟩
        have := na.2.1 a b x y hab h
        rcases q with ⟨rfl, rfl⟩ | ⟨rfl, rfl⟩
        · rw [hx2] at this; cases this
        · rw [crs_r C (hl a al) (hl b bl) (hl y hc) (hl x hd) ncd, hx2] at this; cases this
    · intro h
      rcases h with ⟨h1, h2⟩ | h1
      · rcases (hB x y).mp h1 with ⟨h3, _⟩ | h3
        · exact h3
        · exact (h2 h3).elim
      · rcases h1 with ⟨rfl, rfl⟩ | ⟨rfl, rfl⟩
        · exact hab
        · exact hba
theorem fs_sym (C : CC P o) {l : List Nat} (hl : ∀ x, x ∈ l → P x) {A B : Nat → Nat → Prop} (h : FS o l A B) : FS o l B A :=
  h (fun N => FS o l N A) (fs_refl A) (fun N N' n n' q st => fs_tr (fs_one n' n (step_sym C hl n n' st)) q)
/-- the edges at p that no edge of the others crosses -/
def Kp (o : Nat → Nat → Nat → Bool) (p : Nat) (S : List Nat) (y : Nat) : Prop := y ∈ S ∧ ∀ u v, u ∈ S → v ∈ S → u ≠ v → crs o u v p y = false
def Lft (o : Nat → Nat → Nat → Bool) (p : Nat) (S : List Nat) (X : Nat → Nat → Prop) : Nat → Nat → Prop := fun x y => X x y ∨ (x = p ∧ Kp o p S y) ∨ (y = p ∧ Kp o p S x)
def LfU (o : Nat → Nat → Nat → Bool) (p : Nat) (S : List Nat) (X : Nat → Nat → Prop) : Nat → Nat → Prop := fun x y => X x y ∨ (x = p ∧ y ∈ S ∧ ∀ u v, X u v → crs o u v p y = false) ∨ (y = p ∧ x ∈ S ∧ ∀ u v, X u v → crs o u v p x = false)
theorem crs_p1 (p x y : Nat) : crs o p x p y = false := by simp [crs]
theorem crs_p2 (p x y : Nat) : crs o x p p y = false := by simp [crs]
theorem crs_p3 (p x y : Nat) : crs o p x y p = false := by simp [crs]
theorem crs_p4 (p x y : Nat) : crs o x p y p = false := by simp [crs]
theorem lfu_psm (C : CC P o) (hl : ∀ x, x ∈ p :: S → P x) (hp : p ∉ S) (hE : Ext o p S) {X : Nat → Nat → Prop} (nX : Net o S X) : PSM P o p S (LfU o p S X) := by
  have lp : p ∈ p :: S := List.mem_cons_self
  have ls : ∀ {x}, x ∈ S → x ∈ p :: S := fun h => List.mem_cons_of_mem _ h
  have ns : ∀ {x}, x ∈ S → p ≠ x := fun h e => hp (e ▸ h)
  refine ⟨C, hl, hp, hE, ?_, ?_, ?_⟩
  · intro a b h
    rcases h with h | ⟨rfl, h1, h2⟩ | ⟨rfl, h1, h2⟩
    · obtain ⟨h1, h2, h3, h4⟩ := nX.1 a b h
      exact ⟨ls h1, ls h2, h3, Or.inl h4⟩
    · exact ⟨lp, ls h1, ns h1, Or.inr (Or.inr ⟨rfl, h1, h2⟩)⟩
    · exact ⟨ls h1, lp, (ns h1).symm, Or.inr (Or.inl ⟨rfl, h1, h2⟩)⟩
  · intro a b c d h k
    rcases h with h | ⟨rfl, h1, h2⟩ | ⟨rfl, h1, h2⟩
    · obtain ⟨q1, q2, q3, q4⟩ := nX.1 a b h
      rcases k with k | ⟨rfl, k1, k2⟩ | ⟨rfl, k1, k2⟩
      · exact nX.2.1 a b c d h k
      · exact k2 a b h
      · rw [crs_r C (hl a (ls q1)) (hl b (ls q2)) (hl d lp) (hl c (ls k1)) (ns k1)]; exact k2 a b h
    · rcases k with k | ⟨rfl, k1, k2⟩ | ⟨rfl, k1, k2⟩
      · rw [crs_sw]; exact h2 c d k
      · exact crs_p1 _ _ _
      · exact crs_p3 _ _ _
    · rcases k with k | ⟨rfl, k1, k2⟩ | ⟨rfl, k1, k2⟩
      · obtain ⟨q1, q2, q3, q4⟩ := nX.1 c d k
        rw [crs_sw, crs_r C (hl c (ls q1)) (hl d (ls q2)) (hl b lp) (hl a (ls h1)) (ns h1)]; exact h2 c d k
      · exact crs_p2 _ _ _
      · exact crs_p4 _ _ _
  · intro a b ha hb nab h
    rcases List.mem_cons.mp ha with e1 | e1
    · subst e1
      rcases List.mem_cons.mp hb with e2 | e2
      · exact (nab e2.symm).elim
      · exact Or.inr (Or.inl ⟨rfl, e2, fun u v huv => by rw [crs_sw]; exact h u v (Or.inl huv)⟩)
    · rcases List.mem_cons.mp hb with e2 | e2
      · subst e2
        refine Or.inr (Or.inr ⟨rfl, e1, fun u v huv => ?_⟩)
        obtain ⟨q1, q2, q3, q4⟩ := nX.1 u v huv
        rw [crs_sw, crs_l C (hl a ha) (hl b hb) (hl u (ls q1)) (hl v (ls q2)) nab]
        exact h u v (Or.inl huv)
      · exact Or.inl (nX.2.2 a b e1 e2 nab (fun c d hcd => h c d (Or.inl hcd)))
theorem lfu_nofl (C : CC P o) (hl : ∀ x, x ∈ p :: S → P x) (hp : p ∉ S) (hE : Ext o p S) {X : Nat → Nat → Prop} (nX : Net o S X) : NoFl o (LfU o p S X) p := by
  intro a d b h1 h2
  apply bf
  intro h3
  have H := lfu_psm C hl hp hE nX
  have A : FlA P o p S (LfU o p S X) a d b := ⟨H, h1, h2, h3⟩
  obtain ⟨⟨sa, sd, sb⟩, ⟨pp, pa, pd, pb⟩, ⟨npa, npd, npb, nad, nab, ndb⟩, _, ⟨ha, hd, hb, had, hdb⟩, em1, em2⟩ := fa_all A
  have hab : X a b := nX.2.2 a b sa sb nab (fun c e hce => bf (fun hx => by
    obtain ⟨q1, q2, _, _⟩ := nX.1 c e hce
    rcases fa_only A c e (Or.inl hce) hx with ⟨e1, _⟩ | ⟨_, e1⟩
    · exact hp (e1 ▸ q1)
    · exact hp (e1 ▸ q2)))
  have := fa_x A
  rcases hd with hd | ⟨_, _, hd⟩ | ⟨e, _, _⟩
  · exact hp (nX.1 p d hd).1
  · rw [hd a b hab] at this; cases this
  · exact npd e.symm
theorem nf_edges (H : PSM P o p S M) (hn : NoFl o M p) (y : Nat) : M p y ↔ Kp o p S y := by
  constructor
  · intro h
    exact ⟨(ps_S H h).1, fun u v hu hv _ => bf (fun hx => nc_no H hn hu hv h hx)⟩
  · intro h
    exact ps_edge H h.1 (fun u v huv hu hv hx => by rw [h.2 u v hu hv (H.2.2.2.2.1 u v huv).2.2.1] at hx; cases hx)
theorem nf_eq (H : PSM P o p S M) (hn : NoFl o M p) : M = Lft o p S (fun x y => M x y ∧ x ≠ p ∧ y ≠ p) := by
  funext x y
  apply propext
  constructor
  · intro h
    by_cases e1 : x = p
    · subst e1
      exact Or.inr (Or.inl ⟨rfl, (nf_edges H hn y).mp h⟩)
    by_cases e2 : y = p
    · subst e2
      exact Or.inr (Or.inr ⟨rfl, (nf_edges H hn x).mp (H.2.2.2.2.1 x y h).2.2.2⟩)
    exact Or.inl ⟨h, e1, e2⟩
  · intro h
    rcases h with h | ⟨rfl, h⟩ | ⟨rfl, h⟩
    · exact h.1
    · exact (nf_edges H hn y).mpr h
    · exact (H.2.2.2.2.1 _ _ ((nf_edges H hn x).mpr h)).2.2.2
theorem lft_eq (C : CC P o) (hl : ∀ x, x ∈ p :: S → P x) (hp : p ∉ S) (hE : Ext o p S) {X : Nat → Nat → Prop} (nX : Net o S X) : LfU o p S X = Lft o p S X := by
  have H := lfu_psm C hl hp hE nX
  have hn := lfu_nofl C hl hp hE nX
  rw [nf_eq H hn]
  congr 1
  funext x y
  apply propext
  constructor
  · intro h
    rcases h.1 with h1 | ⟨e, _⟩ | ⟨e, _⟩
    · exact h1
    · exact (h.2.1 e).elim
    · exact (h.2.2 e).elim
  · intro h
    obtain ⟨q1, q2, _, _⟩ := nX.1 x y h
    exact ⟨Or.inl h, fun e => hp (e ▸ q1), fun e => hp (e ▸ q2)⟩
theorem lft_psm (C : CC P o) (hl : ∀ x, x ∈ p :: S → P x) (hp : p ∉ S) (hE : Ext o p S) {X : Nat → Nat → Prop} (nX : Net o S X) : PSM P o p S (Lft o p S X) := by
  rw [← lft_eq C hl hp hE nX]
  exact lfu_psm C hl hp hE nX
theorem lft_step (C : CC P o) (hl : ∀ x, x ∈ p :: S → P x) (hp : p ∉ S) {X X' : Nat → Nat → Prop} (nX : Net o S X) (h : Step o S X X') : Step o (p :: S) (Lft o p S X) (Lft o p S X') := by
  obtain ⟨a, b, c, d, hab, hc, hd, ncd, hx, only, hB⟩ := h
  have ls : ∀ {x}, x ∈ S → x ∈ p :: S := fun h => List.mem_cons_of_mem _ h
  have ns : ∀ {x}, x ∈ S → p ≠ x := fun h e => hp (e ▸ h)
  obtain ⟨sa, sb, nab, hba⟩ := nX.1 a b hab
  refine ⟨a, b, c, d, Or.inl hab, ls hc, ls hd, ncd, hx, ?_, ?_⟩
  · intro u v huv hx2
    rcases huv with h | ⟨rfl, h⟩ | ⟨rfl, h⟩
    · exact only u v h hx2
    · rw [h.2 c d hc hd ncd] at hx2; cases hx2
    · rw [crs_r C (hl c (ls hc)) (hl d (ls hd)) (hl v List.mem_cons_self) (hl u (ls h.1)) (ns h.1), h.2 c d hc hd ncd] at hx2; cases hx2
  · intro x y
    constructor
    · intro h
      rcases h with h | h
      · rcases (hB x y).mp h with ⟨h1, h2⟩ | h1
        · exact Or.inl ⟨Or.inl h1, h2⟩
        · exact Or.inr h1
      · refine Or.inl ⟨Or.inr h, fun q => ?_⟩
        rcases h with ⟨rfl, _⟩ | ⟨rfl, _⟩
        · rcases q with ⟨e, _⟩ | ⟨e, _⟩
          · exact ns sa e
          · exact ns sb e
        · rcases q with ⟨_, e⟩ | ⟨_, e⟩
          · exact ns sb e
          · exact ns sa e
    · intro h
      rcases h with ⟨h1, h2⟩ | h1
      · rcases h1 with h1 | h1
        · exact Or.inl ((hB x y).mpr (Or.inl ⟨h1, h2⟩))
        · exact Or.inr h1
      · exact Or.inl ((hB x y).mpr (Or.inr h1))
theorem lft_fs (C : CC P o) (hl : ∀ x, x ∈ p :: S → P x) (hp : p ∉ S) (hE : Ext o p S) {X X' : Nat → Nat → Prop} (h : FS o S X X') : FS o (p :: S) (Lft o p S X) (Lft o p S X') := by
  intro Q q c
  exact h (fun N => Q (Lft o p S N)) q (fun N N' n n' qn st => c _ _ (lft_psm C hl hp hE n).2.2.2.2 (lft_psm C hl hp hE n').2.2.2.2 qn (lft_step C hl hp n st))
theorem net_canon (C : CC P o) (hl : ∀ x, x ∈ p :: S → P x) (hp : p ∉ S) (hE : Ext o p S) (ih : ∀ X, Net o S X → FP o S X) : ∀ (k : Nat) (M : Nat → Nat → Prop), dgr M p S ≤ k → Net o (p :: S) M → FP o (p :: S) M ∧ ∃ X, Net o S X ∧ FS o (p :: S) M (Lft o p S X) := by
  intro k
  induction k with
  | zero =>
    intro M hk N
    have H : PSM P o p S M := ⟨C, hl, hp, hE, N⟩
    have hn : NoFl o M p := by
      intro a d b h1 h2
      apply bf
      intro h3
      have := fa_deg (⟨H, h1, h2, h3⟩ : FlA P o p S M a d b)
      omega
    refine ⟨nf_fp H hn (ih _ (nf_net H hn)), _, nf_net H hn, ?_⟩
    rw [← nf_eq H hn]
    exact fs_refl M
  | succ k ihk =>
    intro M hk N
    have H : PSM P o p S M := ⟨C, hl, hp, hE, N⟩
    by_cases hn : NoFl o M p
    · refine ⟨nf_fp H hn (ih _ (nf_net H hn)), _, nf_net H hn, ?_⟩
      rw [← nf_eq H hn]
      exact fs_refl M
    · have hn2 : ∃ a d b, Nx o M p a d ∧ Nx o M p d b ∧ o a d b = true := Classical.byContradiction (fun hq => hn (fun a d b h1 h2 => bf (fun h3 => hq ⟨a, d, b, h1, h2, h3⟩)))
      obtain ⟨a, d, b, h1, h2, h3⟩ := hn2
      have A : FlA P o p S M a d b := ⟨H, h1, h2, h3⟩
      have hd := fa_deg A
      obtain ⟨f, X, nX, fs⟩ := ihk _ (by omega) (fa_net A)
      exact ⟨fa_fp A f, X, nX, fs_tr (fs_one N (fa_net A) (fa_step A)) fs⟩
theorem net_main (C : CC P o) : ∀ l : List Nat, (∀ x, x ∈ l → P x) → l.Nodup → Exts o l → (∀ M, Net o l M → FP o l M) ∧ (∀ M M', Net o l M → Net o l M' → FS o l M M')
  | [], _, _, _ => by
    refine ⟨fun M N a b h _ => ?_, fun M M' N N' => ?_⟩
    · cases (N.1 a b h).1
    · have e : M = M' := by
        funext x y
        apply propext
        constructor
        · intro h; cases (N.1 x y h).1
        · intro h; cases (N'.1 x y h).1
      rw [e]
      exact fs_refl M'
  | p :: S, hl, nd, hE => by
    have hlS : ∀ x, x ∈ S → P x := fun x hx => hl x (List.mem_cons_of_mem _ hx)
    obtain ⟨hp, ndS⟩ := List.nodup_cons.mp nd
    obtain ⟨f, g⟩ := net_main C S hlS ndS hE.2
    refine ⟨fun M N => (net_canon C hl hp hE.1 f _ M (Nat.le_refl _) N).1, fun M M' N N' => ?_⟩
    obtain ⟨_, X, nX, fX⟩ := net_canon C hl hp hE.1 f _ M (Nat.le_refl _) N
    obtain ⟨_, X', nX', fX'⟩ := net_canon C hl hp hE.1 f _ M' (Nat.le_refl _) N'
    exact fs_tr fX (fs_tr (lft_fs C hl hp hE.1 (g X X' nX nX')) (fs_sym C hl fX'))
end
