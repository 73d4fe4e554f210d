/-! ORIENTATIONS of points: what holds for every few of them (rows by wip/whole/math/ccgen.py use these). -/
def ccFA (x y z w : Bool) : Bool := !((x && !y && z && !w) || (!x && y && !z && w))
def ccFG (ab ac ad bc bd cd : Bool) : Bool := !(((ab == cd) && (ac != bd) && (ad == bc)) || ((ab != cd) && (ac == bd) && (ad != bc)))
def ccFC (x y z w : Bool) : Bool := (x != y) && (z != w)
def ccFW (x y z w : Bool) : Bool := (x == w) && (y == w) && (z == w)
/-- o a b c: c lies left of the way from a to b; P: the points there are -/
def CC (P : Nat → Prop) (o : Nat → Nat → Nat → Bool) : Prop :=
  (∀ a b c, P a → P b → P c → a ≠ b → a ≠ c → b ≠ c → o b c a = o a b c ∧ o b a c = !o a b c) ∧
  (∀ a b c d, P a → P b → P c → P d → a ≠ b → a ≠ c → a ≠ d → b ≠ c → b ≠ d → c ≠ d → ccFA (o a b c) (o a b d) (o a c d) (o b c d) = true) ∧
  (∀ t a b c d, P t → P a → P b → P c → P d → t ≠ a → t ≠ b → t ≠ c → t ≠ d → a ≠ b → a ≠ c → a ≠ d → b ≠ c → b ≠ d → c ≠ d → ccFG (o t a b) (o t a c) (o t a d) (o t b c) (o t b d) (o t c d) = true)
/-- edges ab and cd cross -/
def crs (o : Nat → Nat → Nat → Bool) (a b c d : Nat) : Bool := (a != c && a != d && b != c && b != d) && ccFC (o a b c) (o a b d) (o c d a) (o c d b)
/-- p is within a, b, c -/
def wit (o : Nat → Nat → Nat → Bool) (p a b c : Nat) : Bool := (p != a && p != b && p != c) && ccFW (o a b p) (o b c p) (o c a p) (o a b c)
section
variable {P : Nat → Prop} {o : Nat → Nat → Nat → Bool}
theorem cr1 (C : CC P o) {a b c : Nat} (pa : P a) (pb : P b) (pc : P c) (nab : a ≠ b) (nac : a ≠ c) (nbc : b ≠ c) : o b c a = o a b c := (C.1 a b c pa pb pc nab nac nbc).1
theorem cr2 (C : CC P o) {a b c : Nat} (pa : P a) (pb : P b) (pc : P c) (nab : a ≠ b) (nac : a ≠ c) (nbc : b ≠ c) : o c a b = o a b c :=
  ((C.1 b c a pb pc pa nbc nab.symm nac.symm).1).trans (cr1 C pa pb pc nab nac nbc)
theorem cr3 (C : CC P o) {a b c : Nat} (pa : P a) (pb : P b) (pc : P c) (nab : a ≠ b) (nac : a ≠ c) (nbc : b ≠ c) : o b a c = !o a b c := (C.1 a b c pa pb pc nab nac nbc).2
theorem cr4 (C : CC P o) {a b c : Nat} (pa : P a) (pb : P b) (pc : P c) (nab : a ≠ b) (nac : a ≠ c) (nbc : b ≠ c) : o a c b = !o a b c :=
  ((C.1 c a b pc pa pb nac.symm nbc.symm nab).2).trans (congrArg not (cr2 C pa pb pc nab nac nbc))
theorem cr5 (C : CC P o) {a b c : Nat} (pa : P a) (pb : P b) (pc : P c) (nab : a ≠ b) (nac : a ≠ c) (nbc : b ≠ c) : o c b a = !o a b c :=
  ((C.1 b c a pb pc pa nbc nab.symm nac.symm).2).trans (congrArg not (cr1 C pa pb pc nab nac nbc))
theorem ccA4 (C : CC P o) {a b c d : Nat} (pa : P a) (pb : P b) (pc : P c) (pd : P d) (nab : a ≠ b) (nac : a ≠ c) (nad : a ≠ d) (nbc : b ≠ c) (nbd : b ≠ d) (ncd : c ≠ d) : ccFA (o a b c) (o a b d) (o a c d) (o b c d) = true := C.2.1 a b c d pa pb pc pd nab nac nad nbc nbd ncd
theorem ccG5 (C : CC P o) {t a b c d : Nat} (pt : P t) (pa : P a) (pb : P b) (pc : P c) (pd : P d) (nta : t ≠ a) (ntb : t ≠ b) (ntc : t ≠ c) (ntd : t ≠ d) (nab : a ≠ b) (nac : a ≠ c) (nad : a ≠ d) (nbc : b ≠ c) (nbd : b ≠ d) (ncd : c ≠ d) : ccFG (o t a b) (o t a c) (o t a d) (o t b c) (o t b d) (o t c d) = true := C.2.2 t a b c d pt pa pb pc pd nta ntb ntc ntd nab nac nad nbc nbd ncd
theorem bb {x : Bool} {v w : Bool} (h : x = v) (k : x = w) (e : (v == w) = false) : False := by subst h; subst k; cases x <;> cases e
theorem bn {x v : Bool} (h : (!x) = v) : x = !v := by subst h; cases x <;> rfl
theorem bt {x : Bool} (h : x = false → False) : x = true := by cases x with
  | true => rfl
  | false => exact (h rfl).elim
theorem bf {x : Bool} (h : x = true → False) : x = false := by cases x with
  | false => rfl
  | true => exact (h rfl).elim
theorem bl2t {f : Bool → Bool → Bool} {x1 x2 y1 y2 : Bool} (h : f x1 x2 = true) (e1 : x1 = y1) (e2 : x2 = y2) (hf : f y1 y2 = false) : False := by
  subst e1; subst e2; rw [h] at hf; cases hf
theorem bl4t {f : Bool → Bool → Bool → Bool → Bool} {x1 x2 x3 x4 y1 y2 y3 y4 : Bool} (h : f x1 x2 x3 x4 = true) (e1 : x1 = y1) (e2 : x2 = y2) (e3 : x3 = y3) (e4 : x4 = y4) (hf : f y1 y2 y3 y4 = false) : False := by
  subst e1; subst e2; subst e3; subst e4; rw [h] at hf; cases hf
theorem bl4f {f : Bool → Bool → Bool → Bool → Bool} {x1 x2 x3 x4 y1 y2 y3 y4 : Bool} (h : f x1 x2 x3 x4 = false) (e1 : x1 = y1) (e2 : x2 = y2) (e3 : x3 = y3) (e4 : x4 = y4) (hf : f y1 y2 y3 y4 = true) : False := by
  subst e1; subst e2; subst e3; subst e4; rw [h] at hf; cases hf
theorem bl3f {f : Bool → Bool → Bool → Bool} {x1 x2 x3 y1 y2 y3 : Bool} (h : f x1 x2 x3 = false) (e1 : x1 = y1) (e2 : x2 = y2) (e3 : x3 = y3) (hf : f y1 y2 y3 = true) : False := by
  subst e1; subst e2; subst e3; rw [h] at hf; cases hf
theorem bl3t {f : Bool → Bool → Bool → Bool} {x1 x2 x3 y1 y2 y3 : Bool} (h : f x1 x2 x3 = true) (e1 : x1 = y1) (e2 : x2 = y2) (e3 : x3 = y3) (hf : f y1 y2 y3 = false) : False := by
  subst e1; subst e2; subst e3; rw [h] at hf; cases hf
theorem bl2f {f : Bool → Bool → Bool} {x1 x2 y1 y2 : Bool} (h : f x1 x2 = false) (e1 : x1 = y1) (e2 : x2 = y2) (hf : f y1 y2 = true) : False := by
  subst e1; subst e2; rw [h] at hf; cases hf
theorem bl6t {f : Bool → Bool → Bool → Bool → Bool → Bool → Bool} {x1 x2 x3 x4 x5 x6 y1 y2 y3 y4 y5 y6 : Bool} (h : f x1 x2 x3 x4 x5 x6 = true) (e1 : x1 = y1) (e2 : x2 = y2) (e3 : x3 = y3) (e4 : x4 = y4) (e5 : x5 = y5) (e6 : x6 = y6) (hf : f y1 y2 y3 y4 y5 y6 = false) : False := by
  subst e1; subst e2; subst e3; subst e4; subst e5; subst e6; rw [h] at hf; cases hf
theorem bne_t {x y : Bool} : (x != y) = true → (bne x y) = true := fun h => h
theorem crs_d {a b c d : Nat} (h : crs o a b c d = true) : a ≠ c ∧ a ≠ d ∧ b ≠ c ∧ b ≠ d := by
  unfold crs at h
  simp only [Bool.and_eq_true, bne_iff_ne, ne_eq] at h
  exact ⟨h.1.1.1.1, h.1.1.1.2, h.1.1.2, h.1.2⟩
theorem crs_t1 {a b c d : Nat} (h : crs o a b c d = true) : bne (o a b c) (o a b d) = true := by
  unfold crs ccFC at h
  simp only [Bool.and_eq_true] at h
  exact h.2.1
theorem crs_t2 {a b c d : Nat} (h : crs o a b c d = true) : bne (o c d a) (o c d b) = true := by
  unfold crs ccFC at h
  simp only [Bool.and_eq_true] at h
  exact h.2.2
theorem crs_f {a b c d : Nat} (n1 : a ≠ c) (n2 : a ≠ d) (n3 : b ≠ c) (n4 : b ≠ d) (h : crs o a b c d = false) : ccFC (o a b c) (o a b d) (o c d a) (o c d b) = false := by
  unfold crs at h
  rw [bne_iff_ne.mpr n1, bne_iff_ne.mpr n2, bne_iff_ne.mpr n3, bne_iff_ne.mpr n4] at h
  exact h
theorem wit_d {p a b c : Nat} (h : wit o p a b c = true) : p ≠ a ∧ p ≠ b ∧ p ≠ c := by
  unfold wit at h
  simp only [Bool.and_eq_true, bne_iff_ne, ne_eq] at h
  exact ⟨h.1.1.1, h.1.1.2, h.1.2⟩
theorem wit_t1 {p a b c : Nat} (h : wit o p a b c = true) : (o a b p == o a b c) = true := by
  unfold wit ccFW at h
  simp only [Bool.and_eq_true] at h
  exact h.2.1.1
theorem wit_t2 {p a b c : Nat} (h : wit o p a b c = true) : (o b c p == o a b c) = true := by
  unfold wit ccFW at h
  simp only [Bool.and_eq_true] at h
  exact h.2.1.2
theorem wit_t3 {p a b c : Nat} (h : wit o p a b c = true) : (o c a p == o a b c) = true := by
  unfold wit ccFW at h
  simp only [Bool.and_eq_true] at h
  exact h.2.2
theorem wit_f {p a b c : Nat} (n1 : p ≠ a) (n2 : p ≠ b) (n3 : p ≠ c) (h : wit o p a b c = false) : ccFW (o a b p) (o b c p) (o c a p) (o a b c) = false := by
  unfold wit at h
  rw [bne_iff_ne.mpr n1, bne_iff_ne.mpr n2, bne_iff_ne.mpr n3] at h
  exact h
theorem wit_of {p a b c : Nat} (n1 : p ≠ a) (n2 : p ≠ b) (n3 : p ≠ c) (h1 : o a b p = o a b c) (h2 : o b c p = o a b c) (h3 : o c a p = o a b c) : wit o p a b c = true := by
  unfold wit ccFW
  rw [bne_iff_ne.mpr n1, bne_iff_ne.mpr n2, bne_iff_ne.mpr n3, h1, h2, h3]
  cases o a b c <;> rfl
theorem crs_of {a b c d : Nat} (n1 : a ≠ c) (n2 : a ≠ d) (n3 : b ≠ c) (n4 : b ≠ d) (h1 : o a b c = !o a b d) (h2 : o c d a = !o c d b) : crs o a b c d = true := by
  unfold crs ccFC
  rw [bne_iff_ne.mpr n1, bne_iff_ne.mpr n2, bne_iff_ne.mpr n3, bne_iff_ne.mpr n4, h1, h2]
  cases o a b d <;> cases o c d b <;> rfl
end
