/-! Flips: an edge that crosses one alone lies in the two triangles there. (The first three by wip/whole/math/fliplem.py.) -/
theorem tx1 {P : Nat → Prop} {o : Nat → Nat → Nat → Bool} (C : CC P o) {a b c d w : Nat} (h1 : crs o c d a b = true) (h2 : o a b c = true) (h3 : o a b w = true) (h4 : wit o c a b w = false) (h5 : crs o c d a w = false) (h6 : crs o c d b w = false) (pa : P a := by assumption) (pb : P b := by assumption) (pc : P c := by assumption) (pd : P d := by assumption) (pw : P w := by assumption) (nab : a ≠ b := by first | assumption | exact Ne.symm (by assumption) | omega) (nac : a ≠ c := by first | assumption | exact Ne.symm (by assumption) | omega) (nad : a ≠ d := by first | assumption | exact Ne.symm (by assumption) | omega) (naw : a ≠ w := by first | assumption | exact Ne.symm (by assumption) | omega) (nbc : b ≠ c := by first | assumption | exact Ne.symm (by assumption) | omega) (nbd : b ≠ d := by first | assumption | exact Ne.symm (by assumption) | omega) (nbw : b ≠ w := by first | assumption | exact Ne.symm (by assumption) | omega) (ncd : c ≠ d := by first | assumption | exact Ne.symm (by assumption) | omega) (ncw : c ≠ w := by first | assumption | exact Ne.symm (by assumption) | omega) (ndw : d ≠ w := by first | assumption | exact Ne.symm (by assumption) | omega) : False := by
  have k3 : o a b d = false := bf (fun e => (bl2t (crs_t2 h1) h2 e rfl))
  rcases Bool.eq_false_or_eq_true (o a c d) with k4 | k4
  · skip
    have k5 : o b c d = false := bf (fun e => (bl2t (crs_t1 h1) ((cr1 C pa pc pd nac nad ncd).trans k4) ((cr1 C pb pc pd nbc nbd ncd).trans e) rfl))
    exact (bl4t (ccA4 C pa pb pc pd nab nac nad nbc nbd ncd) h2 k3 k4 k5 rfl)
  · skip
    have k6 : o b c d = true := bt (fun e => (bl2t (crs_t1 h1) ((cr1 C pa pc pd nac nad ncd).trans k4) ((cr1 C pb pc pd nbc nbd ncd).trans e) rfl))
    rcases Bool.eq_false_or_eq_true (o a c w) with k7 | k7
    · skip
      have k8 : o b c w = true := bt (fun e => (bl4f (wit_f nac.symm nbc.symm ncw h4) h2 ((cr4 C pb pc pw nbc nbw ncw).trans (congrArg not e)) ((cr2 C pa pc pw nac naw ncw).trans k7) h3 rfl))
      have k9 : o c d w = false := bf (fun e => (bl6t (ccG5 C pc pa pb pd pw nac.symm nbc.symm ncd ncw nab nad naw nbd nbw ndw) ((cr2 C pa pb pc nab nac nbc).trans h2) ((cr3 C pa pc pd nac nad ncd).trans (congrArg not k4)) ((cr3 C pa pc pw nac naw ncw).trans (congrArg not k7)) ((cr3 C pb pc pd nbc nbd ncd).trans (congrArg not k6)) ((cr3 C pb pc pw nbc nbw ncw).trans (congrArg not k8)) e rfl))
      have k10 : o b d w = true := bt (fun e => (bl4f (crs_f nbc.symm ncw nbd.symm ndw h6) ((cr1 C pb pc pd nbc nbd ncd).trans k6) k9 ((cr4 C pb pc pw nbc nbw ncw).trans (congrArg not k8)) ((cr4 C pb pd pw nbd nbw ndw).trans (congrArg not e)) rfl))
      exact (bl6t (ccG5 C pb pa pc pd pw nab.symm nbc nbd nbw nac nad naw ncd ncw ndw) ((cr3 C pa pb pc nab nac nbc).trans (congrArg not h2)) ((cr3 C pa pb pd nab nad nbd).trans (congrArg not k3)) ((cr3 C pa pb pw nab naw nbw).trans (congrArg not h3)) k6 k8 k10 rfl)
    · skip
      have k11 : o a d w = true := bt (fun e => (bl6t (ccG5 C pa pb pc pd pw nab nac nad naw nbc nbd nbw ncd ncw ndw) h2 k3 h3 k4 k7 e rfl))
      have k12 : o c d w = false := bf (fun e => (bl4f (crs_f nac.symm ncw nad.symm ndw h5) ((cr1 C pa pc pd nac nad ncd).trans k4) e ((cr4 C pa pc pw nac naw ncw).trans (congrArg not k7)) ((cr4 C pa pd pw nad naw ndw).trans (congrArg not k11)) rfl))
      have k13 : o b d w = false := bf (fun e => (bl6t (ccG5 C pd pa pb pc pw nad.symm nbd.symm ncd.symm ndw nab nac naw nbc nbw ncw) ((cr2 C pa pb pd nab nad nbd).trans k3) ((cr2 C pa pc pd nac nad ncd).trans k4) ((cr3 C pa pd pw nad naw ndw).trans (congrArg not k11)) ((cr2 C pb pc pd nbc nbd ncd).trans k6) ((cr3 C pb pd pw nbd nbw ndw).trans (congrArg not e)) ((cr3 C pc pd pw ncd ncw ndw).trans (congrArg not k12)) rfl))
      have k14 : o b c w = true := bt (fun e => (bl6t (ccG5 C pw pa pb pc pd naw.symm nbw.symm ncw.symm ndw.symm nab nac nad nbc nbd ncd) ((cr2 C pa pb pw nab naw nbw).trans h3) ((cr2 C pa pc pw nac naw ncw).trans k7) ((cr2 C pa pd pw nad naw ndw).trans k11) ((cr2 C pb pc pw nbc nbw ncw).trans e) ((cr2 C pb pd pw nbd nbw ndw).trans k13) ((cr2 C pc pd pw ncd ncw ndw).trans k12) rfl))
      exact (bl4f (crs_f nbc.symm ncw nbd.symm ndw h6) ((cr1 C pb pc pd nbc nbd ncd).trans k6) k12 ((cr4 C pb pc pw nbc nbw ncw).trans (congrArg not k14)) ((cr4 C pb pd pw nbd nbw ndw).trans (congrArg not k13)) rfl)
theorem tx2 {P : Nat → Prop} {o : Nat → Nat → Nat → Bool} (C : CC P o) {a b c d : Nat} (h1 : o a b c = true) (h2 : o a b d = false) (h3 : crs o a b c d = true) (h4 : o a d c = false) (pa : P a := by assumption) (pb : P b := by assumption) (pc : P c := by assumption) (pd : P d := by assumption) (nab : a ≠ b := by first | assumption | exact Ne.symm (by assumption) | omega) (nac : a ≠ c := by first | assumption | exact Ne.symm (by assumption) | omega) (nad : a ≠ d := by first | assumption | exact Ne.symm (by assumption) | omega) (nbc : b ≠ c := by first | assumption | exact Ne.symm (by assumption) | omega) (nbd : b ≠ d := by first | assumption | exact Ne.symm (by assumption) | omega) (ncd : c ≠ d := by first | assumption | exact Ne.symm (by assumption) | omega) : False := by
  have k3 : o a c d = true := bn ((cr4 C pa pc pd nac nad ncd).symm.trans h4)
  have k4 : o b c d = true := bt (fun e => (bl4t (ccA4 C pa pb pc pd nab nac nad nbc nbd ncd) h1 h2 k3 e rfl))
  exact (bl2t (crs_t2 h3) ((cr1 C pa pc pd nac nad ncd).trans k3) ((cr1 C pb pc pd nbc nbd ncd).trans k4) rfl)
theorem tx3 {P : Nat → Prop} {o : Nat → Nat → Nat → Bool} (C : CC P o) {a b c d : Nat} (h1 : o a b c = true) (h2 : o a b d = false) (h3 : crs o a b c d = true) (h4 : o d b c = false) (pa : P a := by assumption) (pb : P b := by assumption) (pc : P c := by assumption) (pd : P d := by assumption) (nab : a ≠ b := by first | assumption | exact Ne.symm (by assumption) | omega) (nac : a ≠ c := by first | assumption | exact Ne.symm (by assumption) | omega) (nad : a ≠ d := by first | assumption | exact Ne.symm (by assumption) | omega) (nbc : b ≠ c := by first | assumption | exact Ne.symm (by assumption) | omega) (nbd : b ≠ d := by first | assumption | exact Ne.symm (by assumption) | omega) (ncd : c ≠ d := by first | assumption | exact Ne.symm (by assumption) | omega) : False := by
  have k3 : o b c d = false := (cr2 C pb pc pd nbc nbd ncd).symm.trans h4
  have k4 : o a c d = false := bf (fun e => (bl4t (ccA4 C pa pb pc pd nab nac nad nbc nbd ncd) h1 h2 e k3 rfl))
  exact (bl2t (crs_t2 h3) ((cr1 C pa pc pd nac nad ncd).trans k4) ((cr1 C pb pc pd nbc nbd ncd).trans k3) rfl)
section
variable {P : Nat → Prop} {o : Nat → Nat → Nat → Bool} {l : List Nat} {M : Nat → Nat → Prop}
theorem quad_only (C : CC P o) (hl : ∀ x, x ∈ l → P x) (N : Net o l M) {a b c d : Nat} (pa : P a) (pb : P b) (pc : P c) (pd : P d) (nab : a ≠ b) (nac : a ≠ c) (nad : a ≠ d) (nbc : b ≠ c) (nbd : b ≠ d) (ncd : c ≠ d) (oc : o a b c = true) (od : o a b d = false) (hx : crs o a b c d = true) (mab : M a b) (mac : M a c) (mbc : M b c) (mad : M a d) (mbd : M b d) (em1 : ∀ q, q ∈ l → wit o q a b c = false) (em2 : ∀ q, q ∈ l → wit o q a b d = false) : ∀ u v, M u v → crs o c d u v = true → (u = a ∧ v = b) ∨ (u = b ∧ v = a) := by
  have k1 : o a d c = true := by
    cases z : o a d c with
    | true => rfl
    | false => exact (tx2 C oc od hx z).elim
  have k2 : o d b c = true := by
    cases z : o d b c with
    | true => rfl
    | false => exact (tx3 C oc od hx z).elim
  have k3 : o a d b = true := by rw [cr4 C pa pb pd nab nad nbd, od]; rfl
  have e1 : o b c a = true := by rw [cr1 C pa pb pc nab nac nbc]; exact oc
  have e2 : o b c d = true := by rw [cr1 C pd pb pc (Ne.symm nbd) (Ne.symm ncd) nbc]; exact k2
  have e3 : o b a d = true := by rw [cr3 C pa pb pd nab nad nbd, od]; rfl
  have e4 : o c a d = true := by rw [cr2 C pa pd pc nad nac (Ne.symm ncd)]; exact k1
  have key : ∀ u v, M u v → crs o u v c d = true → (u = a ∨ u = b ∨ (u ≠ a ∧ u ≠ b ∧ v ≠ a ∧ v ≠ b)) → (u = a ∧ v = b) ∨ (u = b ∧ v = a) := by
    intro u v huv hy hcase
    obtain ⟨ul, vl, nuv, hvu⟩ := N.1 u v huv
    obtain ⟨nuc, nud, nvc, nvd⟩ := crs_d hy
    have pu := hl u ul
    have pv := hl v vl
    have hy' : crs o u v d c = true := by rw [crs_r C pu pv pc pd ncd]; exact hy
    rcases hcase with e | e | ⟨f1, f2, f3, f4⟩
    · subst e
      by_cases z : v = b
      · exact Or.inl ⟨rfl, z⟩
      · have w1 : wit o v b c u = false := by rw [wit_rot C pa pb pc nab nac nbc]; exact em1 v vl
        have w2 : wit o v b u d = false := by rw [wit_sw C pv pa pb pd nab nad nbd]; exact em2 v vl
        exact (tf1 C e1 e2 e3 e4 hy (net_n N huv mbc) (net_n N huv mbd) w1 w2).elim
    · subst e
      by_cases z : v = a
      · exact Or.inr ⟨rfl, z⟩
      · have w2 : wit o v a d u = false := by rw [wit_p2 C pv pa pb pd nab nad nbd]; exact em2 v vl
        exact (tf1 C k3 k1 oc k2 hy' (net_n N huv mad) (net_n N huv mac) w2 (em1 v vl)).elim
    · have w1 : wit o u a d b = false := by rw [wit_p2 C pu pa pb pd nab nad nbd]; exact em2 u ul
      have w2 : wit o v a d b = false := by rw [wit_p2 C pv pa pb pd nab nad nbd]; exact em2 v vl
      have mdb := (N.1 b d mbd).2.2.2
      exact (tf2 C k3 k1 oc k2 hy' (net_n N huv mad) (net_n N huv mdb) (net_n N huv mab) (net_n N huv mbc) (net_n N huv mac) w1 (em1 u ul) w2 (em1 v vl)).elim
  intro u v huv hy
  rw [crs_sw] at hy
  obtain ⟨ul, vl, nuv, hvu⟩ := N.1 u v huv
  have pu := hl u ul
  have pv := hl v vl
  by_cases e1 : u = a
  · exact key u v huv hy (Or.inl e1)
  by_cases e2 : u = b
  · exact key u v huv hy (Or.inr (Or.inl e2))
  have hz : crs o v u c d = true := by rw [crs_l C pu pv pc pd nuv]; exact hy
  by_cases e3 : v = a
  · rcases key v u hvu hz (Or.inl e3) with ⟨r1, r2⟩ | ⟨r1, r2⟩
    · exact Or.inr ⟨r2, r1⟩
    · exact Or.inl ⟨r2, r1⟩
  by_cases e4 : v = b
  · rcases key v u hvu hz (Or.inr (Or.inl e4)) with ⟨r1, r2⟩ | ⟨r1, r2⟩
    · exact Or.inr ⟨r2, r1⟩
    · exact Or.inl ⟨r2, r1⟩
  exact key u v huv hy (Or.inr (Or.inr ⟨e1, e2, e3, e4⟩))
end
section
variable {X Y : Nat → Int} {n w : Nat}
/-- a flip of a b into c d -/
def FlT (X Y : Nat → Int) (n w a b c d : Nat) : Prop := c ≠ a ∧ c ≠ b ∧ d ≠ a ∧ d ≠ b ∧ Tri X Y n w a b c ∧ Tri X Y n w a b d ∧ crs (oXY X Y) a b c d = true
theorem flt_of (hG : GP X Y n) (hn : n ≤ 9) (hw : w < 2 ^ 36) (N : Net (oXY X Y) (List.range n) (Em w)) {a b c d : Nat} (ha : a < n) (hb : b < n) (hc : c < n) (hd : d < n) (nab : a ≠ b) (ncd : c ≠ d) (h : FlT X Y n w a b c d) : crM X Y n (eN c d) &&& w = 2 ^ eN a b := by
  obtain ⟨n1, n2, n3, n4, t1, t2, hx⟩ := h
  have C := cc_xy hG
  have M : ∀ u v, u < n → v < n → u ≠ v → w.testBit (eN u v) = true → Em w u v := fun u v hu hv nuv b => ⟨by omega, by omega, nuv, b⟩
  have mab := M a b ha hb nab t1.1
  have mac := M a c ha hc (Ne.symm n1) t1.2.1
  have mbc := M b c hb hc (Ne.symm n2) t1.2.2.1
  have mad := M a d ha hd (Ne.symm n3) t2.2.1
  have mbd := M b d hb hd (Ne.symm n4) t2.2.2.1
  have only : ∀ u v, Em w u v → crs (oXY X Y) c d u v = true → (u = a ∧ v = b) ∨ (u = b ∧ v = a) := by
    have tt := crs_t1 hx
    cases q : oXY X Y a b c with
    | true =>
      have q2 : oXY X Y a b d = false := by
        cases z : oXY X Y a b d with
        | false => rfl
        | true => rw [q, z] at tt; exact absurd tt (by decide)
      exact quad_only C (fun x hx => List.mem_range.mp hx) N ha hb hc hd nab (Ne.symm n1) (Ne.symm n3) (Ne.symm n2) (Ne.symm n4) ncd q q2 hx mab mac mbc mad mbd (fun p hp => t1.2.2.2 p (List.mem_range.mp hp)) (fun p hp => t2.2.2.2 p (List.mem_range.mp hp))
    | false =>
      have q2 : oXY X Y a b d = true := by
        cases z : oXY X Y a b d with
        | true => rfl
        | false => rw [q, z] at tt; exact absurd tt (by decide)
      intro u v huv hy
      obtain ⟨ul, vl, nuv, _⟩ := N.1 u v huv
      have hx' : crs (oXY X Y) a b d c = true := by rw [crs_r C (P := fun x => x < n) ha hb hc hd ncd]; exact hx
      have hy' : crs (oXY X Y) d c u v = true := by rw [crs_l C (P := fun x => x < n) hc hd (List.mem_range.mp ul) (List.mem_range.mp vl) ncd]; exact hy
      exact quad_only C (fun x hx => List.mem_range.mp hx) N ha hb hd hc nab (Ne.symm n3) (Ne.symm n1) (Ne.symm n4) (Ne.symm n2) (Ne.symm ncd) q2 q hx' mab mad mbd mac mbc (fun p hp => t2.2.2.2 p (List.mem_range.mp hp)) (fun p hp => t1.2.2.2 p (List.mem_range.mp hp)) u v huv hy'
  have e36 := eN_lt (by omega : a < 9) (by omega : b < 9) nab
  refine bit_ext (n := 36) (Nat.lt_of_le_of_lt Nat.and_le_right hw) (Nat.pow_lt_pow_right (by omega) e36) (fun f hf => ?_)
  rw [Nat.testBit_and, Nat.testBit_two_pow]
  by_cases e : eN a b = f
  · rw [decide_eq_true e, ← e, t1.1, cr_uv hG hn hc hd ha hb ncd nab, crs_sw, hx]; rfl
  · rw [decide_eq_false e]
    cases z1 : w.testBit f with
    | false => rw [Bool.and_false]
    | true =>
      obtain ⟨f1, f2, f3, f4, f5⟩ := edge_of hf
      have hh := (net_ncm hG hn hw N).2.1 f z1
      rw [can_at hf] at hh
      have hh := of_decide_eq_true hh
      have m : Em w (eLo f) (eHi f) := ⟨by omega, by omega, by omega, by rw [f3]; exact z1⟩
      cases z2 : (crM X Y n (eN c d)).testBit f with
      | false => rfl
      | true =>
        rw [← f3, cr_uv hG hn hc hd (by omega) hh ncd (by omega)] at z2
        rcases only _ _ m z2 with ⟨y1, y2⟩ | ⟨y1, y2⟩
        · rw [y1, y2] at f3; exact absurd f3 e
        · rw [y1, y2, eN_sy (by omega) (by omega) nab] at f3; exact absurd f3 e
theorem of_flt (hG : GP X Y n) (hD : Dist X Y n) (hn : n ≤ 9) (hw : w < 2 ^ 36) (N : Net (oXY X Y) (List.range n) (Em w)) {a b c d : Nat} (ha : a < n) (hb : b < n) (hc : c < n) (hd : d < n) (nab : a ≠ b) (ncd : c ≠ d) (h : crM X Y n (eN c d) &&& w = 2 ^ eN a b) : FlT X Y n w a b c d := by
  have C := cc_xy hG
  have bt : ∀ f, ((crM X Y n (eN c d)).testBit f && w.testBit f) = decide (eN a b = f) := fun f => by rw [← Nat.testBit_and, h, Nat.testBit_two_pow]
  have b0 := bt (eN a b)
  rw [decide_eq_true rfl, Bool.and_eq_true, cr_uv hG hn hc hd ha hb ncd nab] at b0
  obtain ⟨hx, wab⟩ := b0
  obtain ⟨y1, y2, y3, y4⟩ := crs_d hx
  have mab : Em w a b := ⟨by omega, by omega, nab, wab⟩
  have no : ∀ u v, Em w u v → eN u v ≠ eN a b → crs (oXY X Y) c d u v = false := fun u v huv ne => by
    obtain ⟨ul, vl, nuv, _⟩ := N.1 u v huv
    cases z : crs (oXY X Y) c d u v with
    | false => rfl
    | true =>
      have := bt (eN u v)
      rw [cr_uv hG hn hc hd (List.mem_range.mp ul) (List.mem_range.mp vl) ncd nuv, z, huv.2.2.2, decide_eq_false (Ne.symm ne)] at this
      exact absurd this (by decide)
  have neq : ∀ x y, x < n → y < n → x ≠ y → (x = a ∨ x = b) → y ≠ a → y ≠ b → eN x y ≠ eN a b := fun x y hx hy nxy hab n1 n2 e => by
    rcases eN_inj (by omega) (by omega) nxy (by omega) (by omega) nab e with ⟨z1, z2⟩ | ⟨z1, z2⟩
    · exact n2 z2
    · exact n1 z2
  have half : ∀ a b c d : Nat, a < n → b < n → c < n → d < n → a ≠ b → c ≠ d → c ≠ a → c ≠ b → d ≠ a → d ≠ b → crs (oXY X Y) c d a b = true → Em w a b → (∀ y, y < n → y ≠ a → y ≠ b → (Em w a y → crs (oXY X Y) c d a y = false) ∧ (Em w b y → crs (oXY X Y) c d b y = false)) → oXY X Y a b c = true → Tri X Y n w a b c := by
    intro a b c d ha hb hc hd nab ncd n1 n2 n3 n4 hx mab no oc
    obtain ⟨z, z1, z2, z3, z4, z5, z6, z7⟩ := (geo_main hG hD).1 _ N a b mab ⟨c, List.mem_range.mpr hc, n1, n2, oc⟩
    have z1 := List.mem_range.mp z1
    have od : oXY X Y a b d = false := by
      have hx2 := hx
      rw [crs_sw] at hx2
      have tt := crs_t1 hx2
      cases y : oXY X Y a b d with
      | false => rfl
      | true => rw [oc, y] at tt; exact absurd tt (by decide)
    have zd : z ≠ d := fun e => by rw [e, od] at z4; exact absurd z4 (by decide)
    have zc : z = c := by
      refine Classical.byContradiction (fun nzc => ?_)
      have := no z z1 z2 z3
      exact tx1 C (P := fun x => x < n) hx oc z4 (z7 c (List.mem_range.mpr hc)) (this.1 z5) (this.2 z6)
    subst zc
    exact ⟨mab.2.2.2, z5.2.2.2, z6.2.2.2, fun p hp => z7 p (List.mem_range.mpr hp)⟩
  have no1 : ∀ y, y < n → y ≠ a → y ≠ b → (Em w a y → crs (oXY X Y) c d a y = false) ∧ (Em w b y → crs (oXY X Y) c d b y = false) := fun y hy n1 n2 => ⟨fun m => no a y m (neq a y ha hy (Ne.symm n1) (Or.inl rfl) n1 n2), fun m => no b y m (neq b y hb hy (Ne.symm n2) (Or.inr rfl) n1 n2)⟩
  have hx2 : crs (oXY X Y) a b c d = true := by rw [crs_sw]; exact hx
  have hxd : crs (oXY X Y) d c a b = true := by rw [crs_l C (P := fun x => x < n) hc hd ha hb ncd]; exact hx
  have hxr : crs (oXY X Y) c d b a = true := by rw [crs_r C (P := fun x => x < n) hc hd ha hb nab]; exact hx
  have hxdr : crs (oXY X Y) d c b a = true := by rw [crs_l C (P := fun x => x < n) hc hd hb ha ncd]; exact hxr
  have no2 : ∀ y, y < n → y ≠ a → y ≠ b → (Em w a y → crs (oXY X Y) d c a y = false) ∧ (Em w b y → crs (oXY X Y) d c b y = false) := fun y hy n1 n2 => by
    rw [crs_l C (P := fun x => x < n) hc hd ha hy ncd, crs_l C (P := fun x => x < n) hc hd hb hy ncd]
    exact no1 y hy n1 n2
  have no3 : ∀ y, y < n → y ≠ b → y ≠ a → (Em w b y → crs (oXY X Y) d c b y = false) ∧ (Em w a y → crs (oXY X Y) d c a y = false) := fun y hy n1 n2 => ⟨(no2 y hy n2 n1).2, (no2 y hy n2 n1).1⟩
  have no4 : ∀ y, y < n → y ≠ b → y ≠ a → (Em w b y → crs (oXY X Y) c d b y = false) ∧ (Em w a y → crs (oXY X Y) c d a y = false) := fun y hy n1 n2 => ⟨(no1 y hy n2 n1).2, (no1 y hy n2 n1).1⟩
  have mba := (N.1 a b mab).2.2.2
  have tt := crs_t1 hx2
  cases q : oXY X Y a b c with
  | true =>
    have q2 : oXY X Y a b d = false := by
      cases z : oXY X Y a b d with
      | false => rfl
      | true => rw [q, z] at tt; exact absurd tt (by decide)
    have q3 : oXY X Y b a d = true := by rw [oXY_sw hG ha hb hd nab (Ne.symm y3) (Ne.symm y4), q2]; rfl
    have t1 := half a b c d ha hb hc hd nab ncd y1 y2 y3 y4 hx mab no1 q
    have t2 := half b a d c hb ha hd hc (Ne.symm nab) (Ne.symm ncd) y4 y3 y2 y1 hxdr mba no3 q3
    exact ⟨y1, y2, y3, y4, t1, tri_l hG hn hb ha hd (Ne.symm nab) (Ne.symm y4) (Ne.symm y3) t2, hx2⟩
  | false =>
    have q2 : oXY X Y a b d = true := by
      cases z : oXY X Y a b d with
      | true => rfl
      | false => rw [q, z] at tt; exact absurd tt (by decide)
    have q3 : oXY X Y b a c = true := by rw [oXY_sw hG ha hb hc nab (Ne.symm y1) (Ne.symm y2), q]; rfl
    have t1 := half b a c d hb ha hc hd (Ne.symm nab) ncd y2 y1 y4 y3 hxr mba no4 q3
    have t2 := half a b d c ha hb hd hc nab (Ne.symm ncd) y3 y4 y1 y2 hxd mab no2 q2
    exact ⟨y1, y2, y3, y4, tri_l hG hn hb ha hc (Ne.symm nab) (Ne.symm y2) (Ne.symm y1) t1, t2, hx2⟩
/-- one way alone -/
theorem flt_uq (hG : GP X Y n) (hn : n ≤ 9) (hw : w < 2 ^ 36) (N : Net (oXY X Y) (List.range n) (Em w)) {a b c d c' d' : Nat} (ha : a < n) (hb : b < n) (hc : c < n) (hd : d < n) (hc' : c' < n) (hd' : d' < n) (nab : a ≠ b) (h : FlT X Y n w a b c d) (h' : FlT X Y n w a b c' d') : (c = c' ∧ d = d') ∨ (c = d' ∧ d = c') := by
  obtain ⟨n1, n2, n3, n4, t1, t2, hx⟩ := h
  obtain ⟨m1, m2, m3, m4, u1, u2, hy⟩ := h'
  have s1 := crs_t1 hx
  have s2 := crs_t1 hy
  have uq := fun {z y} (hz : z < n) (hy : y < n) (nz1 : a ≠ z) (nz2 : b ≠ z) (ny1 : a ≠ y) (ny2 : b ≠ y) (tz : Tri X Y n w a b z) (ty : Tri X Y n w a b y) (e : oXY X Y a b z = oXY X Y a b y) => tri_uq hG hn hw N ha hb hz hy nab nz1 nz2 ny1 ny2 tz ty e
  by_cases q : oXY X Y a b c = oXY X Y a b c'
  · refine Or.inl ⟨uq hc hc' (Ne.symm n1) (Ne.symm n2) (Ne.symm m1) (Ne.symm m2) t1 u1 q, uq hd hd' (Ne.symm n3) (Ne.symm n4) (Ne.symm m3) (Ne.symm m4) t2 u2 ?_⟩
    rw [q] at s1
    cases z1 : oXY X Y a b c' <;> cases z2 : oXY X Y a b d <;> cases z3 : oXY X Y a b d' <;> rw [z1, z2] at s1 <;> rw [z1, z3] at s2 <;> simp_all
  · refine Or.inr ⟨uq hc hd' (Ne.symm n1) (Ne.symm n2) (Ne.symm m3) (Ne.symm m4) t1 u2 ?_, uq hd hc' (Ne.symm n3) (Ne.symm n4) (Ne.symm m1) (Ne.symm m2) t2 u1 ?_⟩
    · cases z1 : oXY X Y a b c <;> cases z2 : oXY X Y a b c' <;> cases z3 : oXY X Y a b d' <;> rw [z2, z3] at s2 <;> simp_all
    · cases z1 : oXY X Y a b c <;> cases z2 : oXY X Y a b c' <;> cases z3 : oXY X Y a b d <;> rw [z1, z3] at s1 <;> simp_all
end
