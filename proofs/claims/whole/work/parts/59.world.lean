/-! Worlds: all ways in which the points can lie round m, as data. Elements 0 .. m - 1; the middle ones are 1 .. m - 2. -/
def i2 (j k : Nat) : Nat := (k - 1) * (k - 2) / 2 + (j - 1)
def i3 (a c b : Nat) : Nat := (b - 1) * (b - 2) * (b - 3) / 6 + (c - 1) * (c - 2) / 2 + (a - 1)
abbrev wEn : Type := Nat × List Nat × List Nat
def wDecL : Nat → Nat → List Nat
  | 0, _ => []
  | n + 1, x => (x % 32768) :: wDecL n (x / 32768)
/-- an entry: 20 bits, two lengths of 8 bits, numbers of 15 bits -/
def wDec : Nat → Nat → List wEn
  | 0, _ => []
  | n + 1, x => (x % 1048576, wDecL (x / 1048576 % 256) (x / 68719476736), wDecL (x / 268435456 % 256) (x / 68719476736 / 32768 ^ (x / 1048576 % 256))) :: wDec n (x / 68719476736 / 32768 ^ (x / 1048576 % 256 + x / 268435456 % 256))
/-- bit i as a number -/
def bitN (x i : Nat) : Nat := Nat.land (Nat.shiftRight x i) 1
/-- the column of bit i of some numbers -/
noncomputable def wCol (i : Nat) (rs : List Nat) : Nat := List.rec (motive := fun _ => Nat) 0 (fun r _ ih => Nat.lor (bitN r i) (Nat.shiftLeft ih 1)) rs
/-- blocks of width nr, one for each number -/
noncomputable def wBlk (nr : Nat) (h : Nat → Nat) (ls : List Nat) : Nat := List.rec (motive := fun _ => Nat) 0 (fun l _ ih => Nat.lor (h l) (Nat.shiftLeft ih nr)) ls
/-- kinds: 0 of the middle, 1 with the first, 2 with the last -/
noncomputable def wEnt (kind i : Nat) (e : wEn) : Nat := cond (Nat.beq kind 0) (Nat.mul (bitN e.1 i) (2 ^ (e.2.1.length * e.2.2.length) - 1))
  (cond (Nat.beq kind 1) (wBlk e.2.2.length (fun l => Nat.mul (bitN l i) (2 ^ e.2.2.length - 1)) e.2.1) (wBlk e.2.2.length (fun _ => wCol i e.2.2) e.2.1))
def wWid (e : wEn) : Nat := e.2.1.length * e.2.2.length
noncomputable def wAll (kind i : Nat) (es : List wEn) : Nat := List.rec (motive := fun _ => Nat) 0 (fun e _ ih => Nat.lor (wEnt kind i e) (Nat.shiftLeft ih (wWid e))) es
noncomputable def wLen (es : List wEn) : Nat := List.rec (motive := fun _ => Nat) 0 (fun e _ ih => Nat.add (wWid e) ih) es
def wTile (W v : Nat) : Nat → Nat
  | 0 => 0
  | n + 1 => v ||| (wTile W v n <<< W)
/-- one for each t below n -/
def wCut (W : Nat) (h : Nat → Nat) : Nat → Nat → Nat
  | 0, _ => 0
  | n + 1, t => h t ||| (wCut W h n (t + 1) <<< W)
/-- the rank of j: one before it is one of whom k j holds -/
def wPre (ones : Nat) (L R : Nat → Nat → Nat) (k j : Nat) : Nat := cond (Nat.blt j k) (R j k &&& (ones ^^^ L j k)) (cond (Nat.blt k j) (ones ^^^ (R k j &&& (ones ^^^ L k j))) 0)
noncomputable def wRank (ones : Nat) (L R : Nat → Nat → Nat) (j : Nat) : Nat → List Nat
  | 0 => []
  | n + 1 => bsAdd (wRank ones L R j n) [wPre ones L R (n + 1) j] 0
noncomputable def wLow (ones : Nat) (rk : List Nat) (t : Nat) : Nat := ones &&& cond (Nat.beq t 0) 0 (ones ^^^ bsGt ones rk (t - 1))
def wMon (ones x y z w : Nat) : Nat := ones ^^^ (((x ^^^ y) &&& (y ^^^ z)) ||| (((x ^^^ y) &&& (z ^^^ w)) ||| ((y ^^^ z) &&& (z ^^^ w))))
/-- the vectors of a batch, by the two nearer of three and the farther -/
noncomputable def wVec (m : Nat) (es : List wEn) (W a c b : Nat) : Nat :=
  cond (Nat.beq a 0) (cond (Nat.beq b (m - 1))
    (wCut W (wLow (2 ^ W - 1) (wRank (2 ^ W - 1) (fun j k => wAll 1 (i2 j k) es) (fun j k => wAll 2 (i2 j k) es) c (m - 2))) (m - 1) 0)
    (wTile W (wAll 1 (i2 c b) es) (m - 1)))
   (cond (Nat.beq b (m - 1)) (wTile W (wAll 2 (i2 a c) es) (m - 1)) (wTile W (wAll 0 (i3 a c b) es) (m - 1)))
noncomputable def wTab (m : Nat) (es : List wEn) (W : Nat) : List (List (List Nat)) := (List.range m).map (fun a => (List.range m).map (fun c => (List.range m).map (fun b => wVec m es W a c b)))
noncomputable def wV (D : List (List (List Nat))) (a c b : Nat) : Nat := nth (nth (nth D [] a) [] c) 0 b
def wVal (m ones : Nat) (V : Nat → Nat → Nat → Nat) : Nat := vAll ones (fun k => vAll ones (fun j => cond (Nat.blt 0 j && (Nat.blt j k && Nat.blt k (m - 1))) (wMon ones (V 0 j k) (V 0 j (m - 1)) (V 0 k (m - 1)) (V j k (m - 1))) ones) m) m
noncomputable def wChk2 (m bound ones : Nat) (V : Nat → Nat → Nat → Nat) : Bool := Nat.beq (bsGt ones (bTotal V ones m) bound &&& wVal m ones V) 0
noncomputable def wChk (m bound : Nat) (es : List wEn) (W : Nat) : Bool := wChk2 m bound (2 ^ ((m - 1) * W) - 1) (wV (wTab m es W))
/-- tables: bit i of each number below 2 ^ n -/
def tbl : Nat → Nat → Nat
  | 0, _ => 0
  | n + 1, i => cond (Nat.beq i n) ((2 ^ 2 ^ n - 1) <<< 2 ^ n) (tbl n i ||| (tbl n i <<< 2 ^ n))
/-- those numbers that tell a way in which the middle ones can lie -/
def wOkW (m nW : Nat) : Nat := vAll (2 ^ 2 ^ nW - 1) (fun d => vAll (2 ^ 2 ^ nW - 1) (fun c => vAll (2 ^ 2 ^ nW - 1) (fun b => vAll (2 ^ 2 ^ nW - 1) (fun a => cond (Nat.blt 0 a && (Nat.blt a b && (Nat.blt b c && (Nat.blt c d && Nat.blt d (m - 1))))) (wMon (2 ^ 2 ^ nW - 1) (tbl nW (i3 a b c)) (tbl nW (i3 a b d)) (tbl nW (i3 a c d)) (tbl nW (i3 b c d))) (2 ^ 2 ^ nW - 1)) m) m) m) m
/-- those that tell how the first, the last lie to the middle ones w -/
def wOkL (m nL w : Nat) : Nat := vAll (2 ^ 2 ^ nL - 1) (fun c => vAll (2 ^ 2 ^ nL - 1) (fun b => vAll (2 ^ 2 ^ nL - 1) (fun a => cond (Nat.blt 0 a && (Nat.blt a b && (Nat.blt b c && Nat.blt c (m - 1)))) (wMon (2 ^ 2 ^ nL - 1) (tbl nL (i2 a b)) (tbl nL (i2 a c)) (tbl nL (i2 b c)) (Nat.mul (bitN w (i3 a b c)) (2 ^ 2 ^ nL - 1))) (2 ^ 2 ^ nL - 1)) m) m) m
def wOkR (m nL w : Nat) : Nat := vAll (2 ^ 2 ^ nL - 1) (fun c => vAll (2 ^ 2 ^ nL - 1) (fun b => vAll (2 ^ 2 ^ nL - 1) (fun a => cond (Nat.blt 0 a && (Nat.blt a b && (Nat.blt b c && Nat.blt c (m - 1)))) (wMon (2 ^ 2 ^ nL - 1) (Nat.mul (bitN w (i3 a b c)) (2 ^ 2 ^ nL - 1)) (tbl nL (i2 a b)) (tbl nL (i2 a c)) (tbl nL (i2 b c))) (2 ^ 2 ^ nL - 1)) m) m) m
noncomputable def wSet (ls : List Nat) : Nat := List.rec (motive := fun _ => Nat) 0 (fun l _ ih => Nat.lor (Nat.shiftLeft 1 l) ih) ls
noncomputable def wSetE (es : List wEn) : Nat := List.rec (motive := fun _ => Nat) 0 (fun e _ ih => Nat.lor (Nat.shiftLeft 1 e.1) ih) es
noncomputable def wOkE (m nL : Nat) (es : List wEn) : Bool := List.rec (motive := fun _ => Bool) true (fun e _ ih => Nat.beq (wOkL m nL e.1 &&& ((2 ^ 2 ^ nL - 1) ^^^ wSet e.2.1)) 0 && (Nat.beq (wOkR m nL e.1 &&& ((2 ^ 2 ^ nL - 1) ^^^ wSet e.2.2)) 0 && ih)) es
noncomputable def wUni (bs : List (Nat × Nat × Nat)) : Nat := List.rec (motive := fun _ => Nat) 0 (fun b _ ih => Nat.lor (wSetE (wDec b.1 b.2.2)) ih) bs
def wGoodB (m bound nL : Nat) : List (Nat × Nat × Nat) → Prop
  | [] => True
  | b :: bs => (wChk m bound (wDec b.1 b.2.2) b.2.1 && Nat.beq (wLen (wDec b.1 b.2.2)) b.2.1 && wOkE m nL (wDec b.1 b.2.2)) = true ∧ wGoodB m bound nL bs
