/-! Many counts at once: a number is a row of bits, each bit a number whose bits belong to the worlds. -/
noncomputable def bsInc (ys : List Nat) : Nat → List Nat := List.rec (motive := fun _ => Nat → List Nat) (fun c => cond (Nat.beq c 0) [] [c]) (fun y _ ih c => (Nat.xor y c) :: ih (Nat.land y c)) ys
noncomputable def bsAdd (xs : List Nat) : List Nat → Nat → List Nat := List.rec (motive := fun _ => List Nat → Nat → List Nat) (fun ys c => bsInc ys c)
  (fun x _ ih ys c => List.rec (motive := fun _ => List Nat) ((Nat.xor x c) :: ih [] (Nat.land x c)) (fun y ys2 _ => (Nat.xor x (Nat.xor y c)) :: ih ys2 (Nat.lor (Nat.land x y) (Nat.land c (Nat.xor x y)))) ys) xs
noncomputable def bsMask (m : Nat) (xs : List Nat) : List Nat := List.rec (motive := fun _ => List Nat) [] (fun x _ ih => (Nat.land m x) :: ih) xs
noncomputable def nth {α : Type} (l : List α) : α → Nat → α := List.rec (motive := fun _ => α → Nat → α) (fun d _ => d) (fun a _ ih d i => Nat.rec (motive := fun _ => α) a (fun j _ => ih d j) i) l
theorem bsInc_n (c : Nat) : bsInc [] c = cond (Nat.beq c 0) [] [c] := rfl
theorem bsInc_c (y : Nat) (ys : List Nat) (c : Nat) : bsInc (y :: ys) c = (y ^^^ c) :: bsInc ys (y &&& c) := rfl
theorem bsAdd_n (ys : List Nat) (c : Nat) : bsAdd [] ys c = bsInc ys c := rfl
theorem bsAdd_1 (x : Nat) (xs : List Nat) (c : Nat) : bsAdd (x :: xs) [] c = (x ^^^ c) :: bsAdd xs [] (x &&& c) := rfl
theorem bsAdd_2 (x : Nat) (xs : List Nat) (y : Nat) (ys : List Nat) (c : Nat) : bsAdd (x :: xs) (y :: ys) c = (x ^^^ (y ^^^ c)) :: bsAdd xs ys ((x &&& y) ||| (c &&& (x ^^^ y))) := rfl
theorem bsMask_c (m x : Nat) (xs : List Nat) : bsMask m (x :: xs) = (m &&& x) :: bsMask m xs := rfl
/-- world's own number -/
def bsv : List Nat → Nat → Nat
  | [], _ => 0
  | x :: xs, w => (cond (x.testBit w) 1 0) + 2 * bsv xs w
theorem bsv_inc (w : Nat) : ∀ (ys : List Nat) (c : Nat), bsv (bsInc ys c) w = bsv ys w + cond (c.testBit w) 1 0
  | [], c => by
    rw [bsInc_n]
    cases h : Nat.beq c 0 with
    | true => rw [Nat.eq_of_beq_eq_true h]; simp [bsv]
    | false => simp [bsv]
  | y :: ys, c => by
    rw [bsInc_c]
    unfold bsv
    rw [bsv_inc w ys, Nat.testBit_xor, Nat.testBit_and]
    cases y.testBit w <;> cases c.testBit w <;> simp <;> omega
theorem bsv_add (w : Nat) : ∀ (xs ys : List Nat) (c : Nat), bsv (bsAdd xs ys c) w = bsv xs w + bsv ys w + cond (c.testBit w) 1 0
  | [], ys, c => by
    rw [bsAdd_n, bsv_inc]
    simp [bsv]
  | x :: xs, [], c => by
    rw [bsAdd_1]
    unfold bsv
    rw [bsv_add w xs [], Nat.testBit_xor, Nat.testBit_and]
    have : bsv [] w = 0 := rfl
    rw [this]
    cases x.testBit w <;> cases c.testBit w <;> simp <;> omega
  | x :: xs, y :: ys, c => by
    rw [bsAdd_2]
    unfold bsv
    rw [bsv_add w xs ys, Nat.testBit_xor, Nat.testBit_xor, Nat.testBit_or, Nat.testBit_and, Nat.testBit_and, Nat.testBit_xor]
    cases x.testBit w <;> cases y.testBit w <;> cases c.testBit w <;> simp <;> omega
theorem bsv_mask (w m : Nat) : ∀ xs : List Nat, bsv (bsMask m xs) w = cond (m.testBit w) (bsv xs w) 0
  | [] => by cases m.testBit w <;> rfl
  | x :: xs => by
    rw [bsMask_c]
    unfold bsv
    rw [bsv_mask w m xs, Nat.testBit_and]
    cases m.testBit w <;> simp
/-- the worlds whose number is k, is above k -/
def bsEq (ones : Nat) : List Nat → Nat → Nat
  | [], k => cond (Nat.beq k 0) ones 0
  | x :: xs, k => cond (Nat.beq (k % 2) 0) (bsEq ones xs (k / 2) &&& (ones ^^^ x)) (bsEq ones xs (k / 2) &&& x)
def bsGt (ones : Nat) : List Nat → Nat → Nat
  | [], _ => 0
  | x :: xs, k => cond (Nat.beq (k % 2) 0) (bsGt ones xs (k / 2) ||| (bsEq ones xs (k / 2) &&& x)) (bsGt ones xs (k / 2))
theorem bsEq_at {ones w : Nat} (h : ones.testBit w = true) : ∀ (xs : List Nat) (k : Nat), (bsEq ones xs k).testBit w = decide (bsv xs w = k)
  | [], k => by
    unfold bsEq bsv
    by_cases e : k = 0
    · subst e; simpa using h
    · rw [nbeq_f e]; simp; omega
  | x :: xs, k => by
    unfold bsEq bsv
    by_cases e : k % 2 = 0
    · rw [e]
      show ((bsEq ones xs (k / 2)) &&& (ones ^^^ x)).testBit w = _
      rw [Nat.testBit_and, bsEq_at h xs, Nat.testBit_xor, h]
      cases x.testBit w
      · simp; omega
      · simp; omega
    · rw [nbeq_f e]
      show ((bsEq ones xs (k / 2)) &&& x).testBit w = _
      rw [Nat.testBit_and, bsEq_at h xs]
      cases x.testBit w
      · simp; omega
      · simp; omega
theorem bsGt_at {ones w : Nat} (h : ones.testBit w = true) : ∀ (xs : List Nat) (k : Nat), (bsGt ones xs k).testBit w = decide (k < bsv xs w)
  | [], k => by simp [bsGt, bsv]
  | x :: xs, k => by
    unfold bsGt bsv
    by_cases e : k % 2 = 0
    · rw [e]
      show ((bsGt ones xs (k / 2)) ||| ((bsEq ones xs (k / 2)) &&& x)).testBit w = _
      rw [Nat.testBit_or, Nat.testBit_and, bsGt_at h xs, bsEq_at h xs]
      cases x.testBit w
      · simp; omega
      · simp
        rw [Bool.eq_iff_iff]
        simp
        omega
    · rw [nbeq_f e]
      show (bsGt ones xs (k / 2)).testBit w = _
      rw [bsGt_at h xs]
      cases x.testBit w
      · simp; omega
      · simp; omega
/-! The machine: rows for the paths; terms are a mask, a path, a place in its row. -/
abbrev bTerm : Type := Nat × Nat × Nat
abbrev bTab : Type := List (List (List Nat))
noncomputable def bGet (t : bTab) (x j : Nat) : List Nat := nth (nth t [] x) [] j
noncomputable def bTerms (t : bTab) (es : List bTerm) : List Nat → List Nat := List.rec (motive := fun _ => List Nat → List Nat) (fun acc => acc) (fun e _ ih acc => ih (bsAdd acc (bsMask e.1 (bGet t e.2.1 e.2.2)) 0)) es
theorem bTerms_c (t : bTab) (e : bTerm) (es : List bTerm) (acc : List Nat) : bTerms t (e :: es) acc = bTerms t es (bsAdd acc (bsMask e.1 (bGet t e.2.1 e.2.2)) 0) := rfl
noncomputable def bRow (t : bTab) (gs : List (List bTerm)) : List Nat → List (List Nat) := List.rec (motive := fun _ => List Nat → List (List Nat)) (fun _ => []) (fun g _ ih acc => bTerms t g acc :: ih (bTerms t g acc)) gs
theorem bRow_c (t : bTab) (g : List bTerm) (gs : List (List bTerm)) (acc : List Nat) : bRow t (g :: gs) acc = bTerms t g acc :: bRow t gs (bTerms t g acc) := rfl
noncomputable def bLayer (prog : List (Nat × List (List bTerm))) (t : bTab) : bTab := prog.map (fun r => bRow t r.2 [r.1])
def bZero (prog : List (Nat × List (List bTerm))) : bTab := prog.map (fun r => r.2.map (fun _ => [r.1]))
noncomputable def bLayers (prog : List (Nat × List (List bTerm))) : Nat → bTab
  | 0 => bZero prog
  | n + 1 => bLayer prog (bLayers prog n)
noncomputable def bSum (t : bTab) : List (Nat × Nat) → List Nat → Nat → List Nat
  | [], acc, _ => acc
  | e :: es, acc, j => bSum t es (bsAdd acc (bsMask e.2 (bGet t e.1 j)) 0) j
/-- all of some -/
def vAll (ones : Nat) (h : Nat → Nat) : Nat → Nat
  | 0 => ones
  | n + 1 => vAll ones h n &&& h n
def vI (V : Nat → Nat → Nat → Nat) (ones m a c b : Nat) : Nat := V a c b &&& vAll ones (fun d => cond (Nat.blt a d && Nat.blt d c) ((ones ^^^ V a d b) ||| V a d c) (cond (Nat.blt c d && Nat.blt d b) ((ones ^^^ V a d b) ||| V c d b) ones)) m
def vR (V : Nat → Nat → Nat → Nat) (ones m a c b : Nat) : Nat := (ones ^^^ V a c b) &&& vAll ones (fun d => cond (Nat.blt a d && Nat.blt d c) ((ones ^^^ V a d c) ||| V a d b) (cond (Nat.blt c d && Nat.blt d b) ((ones ^^^ V c d b) ||| V a d b) ones)) m
def vTop (V : Nat → Nat → Nat → Nat) (ones m : Nat) (f : Nat → Bool) : Nat := vAll ones (fun i => cond (f (i + 1)) (V (prv f (i + 1)) (i + 1) (nxt f m (i + 1))) (ones ^^^ V (prv f (i + 1)) (i + 1) (nxt f m (i + 1)))) (m - 2)
def vSt (V : Nat → Nat → Nat → Nat) (ones m : Nat) (f : Nat → Bool) : Nat := vAll ones (fun i => cond (f (i + 1)) ones (V (prv f (i + 1)) (i + 1) (nxt f m (i + 1)))) (m - 2)
def vC (V : Nat → Nat → Nat → Nat) (ones m : Nat) (f : Nat → Bool) (c : Nat) : Nat := cond (f c) (vR V ones m (prv f c) c (nxt f m c)) (vI V ones m (prv f c) c (nxt f m c))
/-- the terms whose key is 2 a or 2 a + 1 -/
def bGrp (V : Nat → Nat → Nat → Nat) (ones m x a : Nat) : Nat → List bTerm
  | 0 => []
  | i + 1 => cond (Nat.beq (keyC (fmk m x) (i + 1) / 2) a) ((vC V ones m (fmk m x) (i + 1), x ^^^ (2 ^ i), m - 2 - prv (fmk m x) (i + 1)) :: bGrp V ones m x a i) (bGrp V ones m x a i)
/-- down from a = n - 1 -/
def bGrps (V : Nat → Nat → Nat → Nat) (ones m x : Nat) : Nat → List (List bTerm)
  | 0 => []
  | n + 1 => bGrp V ones m x n (m - 2) :: bGrps V ones m x n
def bProg (V : Nat → Nat → Nat → Nat) (ones m : Nat) : List (Nat × List (List bTerm)) := (List.range (2 ^ (m - 2))).map (fun x => (vTop V ones m (fmk m x), bGrps V ones m x (m - 1)))
noncomputable def bTotal (V : Nat → Nat → Nat → Nat) (ones m : Nat) : List Nat := bSum (bLayers (bProg V ones m) (2 * (m - 2))) ((List.range (2 ^ (m - 2))).map (fun x => (x, vSt V ones m (fmk m x)))) [] (m - 2)
