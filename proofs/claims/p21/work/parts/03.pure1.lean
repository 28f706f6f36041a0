/-! what the small methods answer, number by number as they count it -/
def zbit (c : Int32) : Int32 := 1 <<< (c &&& 31)
def zhas (s c : Int32) : Bool := !decide (s &&& zbit c = 0)
def zlow (s : Int32) : Int32 := s &&& -s
def zus (x k : Int32) : Int32 := (x.toUInt32 >>> (k.toUInt32 &&& Int32.toUInt32 31)).toInt32
def zb1 (i : Int32) : Int32 := i - (zus i 1 &&& 1431655765)
def zb2 (i : Int32) : Int32 := (i &&& 858993459) + (zus i 2 &&& 858993459)
def zb3 (i : Int32) : Int32 := (i + zus i 4) &&& 252645135
def zb4 (i : Int32) : Int32 := i + zus i 8
def zb5 (i : Int32) : Int32 := i + zus i 16
def bc (i : Int32) : Int32 := zb5 (zb4 (zb3 (zb2 (zb1 i)))) &&& 63
def zrem (x y : Int32) : Int32 := x - x / y * y
def zfm (x y : Int32) : Int32 := if ¬ 0 ≤ x ^^^ y ∧ ¬ zrem x y = 0 then zrem x y + y else zrem x y
def zcw (f : Nat → Int32) (n : Int32) : Int32 := if ¬ n < 0 ∧ n < 10 then f n.toNatClampNeg else 0
def zni (f : Nat → Int32) (c : Int32) : Nat → Int32 | 0 => 0 | j + 1 => if zhas (f (9 - j)) c then nI (9 - j) else zni f c j
def zwr (f : Nat → Int32) (c n : Int32) : Nat → Int32 := fun k => if k < 10 then (if nI k = n then f k ||| zbit c else f k &&& (zbit c ^^^ (-1))) else f k
def zbs (cc ac fc lc x : Int32) : Int32 := (((zus (x &&& (fc ^^^ (-1))) 1 ||| ((x &&& (lc ^^^ (-1))) <<< ((1 : Int32) &&& 31))) ||| zus x cc) ||| (x <<< (cc &&& 31))) &&& ac
def zsp (cc ac fc lc g : Int32) : Nat → Int32 → Int32 | 0, x => x | n + 1, x => if x ||| (zbs cc ac fc lc x &&& g) = x then x else zsp cc ac fc lc g n (x ||| (zbs cc ac fc lc x &&& g))
def zfo (cc ac fc lc : Int32) (f : Nat → Int32) (c : Int32) : Int32 := if zni f c 9 = 0 then 0 else zsp cc ac fc lc (zcw f (zni f c 9)) 12 (zbit c)
def zro (cc ac fc lc : Int32) (f : Nat → Int32) (c : Int32) : Int32 := if zni f c 9 = 0 then 0 else zsp cc ac fc lc (zcw f (zni f c 9) ||| f 0) 12 (zbit c)
def ztl (cc ac fc lc g n : Int32) : Nat → Int32 → Bool | 0, _ => false | j + 1, left => if left = 0 then false else if n < bc (zsp cc ac fc lc g 12 (zlow left)) then true else ztl cc ac fc lc g n j (left &&& (zsp cc ac fc lc g 12 (zlow left) ^^^ (-1)))
def ztr (cc ac fc lc g n : Int32) : Nat → Int32 → Bool | 0, _ => false | j + 1, left => if left = 0 then false else if bc (zsp cc ac fc lc g 12 (zlow left)) < n then true else ztr cc ac fc lc g n j (left &&& (zsp cc ac fc lc g 12 (zlow left) ^^^ (-1)))
def zTL (cc ac fc lc : Int32) (f : Nat → Int32) (n : Int32) : Bool := ztl cc ac fc lc (zcw f n) n 12 (zcw f n)
def zTR (cc ac fc lc : Int32) (f : Nat → Int32) (n : Int32) : Bool := ztr cc ac fc lc (zcw f n ||| f 0) n 12 (zcw f n)
def zso (cc ac fc lc : Int32) (f : Nat → Int32) : Nat → Bool | 0 => true | j + 1 => if zTL cc ac fc lc f (nI (9 - j)) || zTR cc ac fc lc f (nI (9 - j)) then false else zso cc ac fc lc f j
def zctL (cc ac fc lc : Int32) (f : Nat → Int32) (n : Int32) : Nat → Bool → Bool | 0, b => b | j + 1, b => if b then zctL cc ac fc lc f n j (decide (nI (9 - j) = n) || !zTR cc ac fc lc f (nI (9 - j))) else false
def zct (cc ac fc lc : Int32) (f : Nat → Int32) (c n : Int32) : Bool := zhas (f 0) c && zctL cc ac fc lc (zwr f c n) n 9 (decide (bc (zfo cc ac fc lc (zwr f c n) c) ≤ n) && !zTR cc ac fc lc (zwr f c n) n)
def zctf (f : Nat → Int32) (c n : Int32) : Nat → Int32 := if zhas (f 0) c then zwr (zwr f c n) c 0 else f
def zle (f : Nat → Int32) (n : Int32) : Nat → Int32 → Int32 | 0, k => k | j + 1, k => zle f n j (k + zfm (-(bc (zcw f (nI (9 - j))) + (if nI (9 - j) = n then 1 else 0))) (nI (9 - j)))
def zhiI (cc ac fc lc : Int32) (f : Nat → Int32) (n : Int32) : Nat → Int32 → Int32 → Int32 | 0, _, r => r | i + 1, left, r => if left = 0 then r else zhiI cc ac fc lc f n i (left &&& (zsp cc ac fc lc (zcw f n) 12 (zlow left) ^^^ (-1))) (r ||| zsp cc ac fc lc (f 0) (n - bc (zsp cc ac fc lc (zcw f n) 12 (zlow left))).toNatClampNeg (zsp cc ac fc lc (zcw f n) 12 (zlow left)))
def zhiO (cc ac fc lc : Int32) (f : Nat → Int32) : Nat → Int32 → Int32 | 0, r => r | j + 1, r => zhiO cc ac fc lc f j (zhiI cc ac fc lc f (nI (9 - j)) 12 (zcw f (nI (9 - j))) r)
def zhi (cc ac fc lc : Int32) (f : Nat → Int32) : Int32 := f 0 &&& (zhiO cc ac fc lc f 9 0 ^^^ (-1))
def zsh (cc ac fc lc : Int32) (f : Nat → Int32) (x n : Int32) : Bool := decide (bc x = n) && decide ((zbs cc ac fc lc x &&& (x ^^^ (-1))) &&& zcw f n = 0) && decide (zsp cc ac fc lc x 12 (zlow x) = x)
def zfc (co : Int32) : Nat → Int32 | 0 => 0 | n + 1 => zfc co n ||| zbit (nI n * co)
def zem (f : Nat → Int32) (ac : Int32) : Nat → Int32 := fun k => if k < 10 then (if k = 0 then ac else 0) else f k
def zcp (f g : Nat → Int32) : Nat → Int32 := fun k => if k < 10 then g k else f k
def zlc (co fc : Int32) : Int32 := fc <<< ((co - 1) &&& 31)
def zac (r co : Int32) : Int32 := zbit (r * co) - 1
def ve_J6_bitCount_0f7a4 (p0 : Int32) (P : Int32 → Unit → Prop)  : Prop := ∀ y_1 : Int32, y_1 = p0 - (((p0.toUInt32 >>> ((1 : Int32).toUInt32 &&& Int32.toUInt32 31)).toInt32) &&& 1431655765) → ∀ y_2 : Int32, y_2 = (y_1 &&& 858993459) + (((y_1.toUInt32 >>> ((2 : Int32).toUInt32 &&& Int32.toUInt32 31)).toInt32) &&& 858993459) → ∀ y_3 : Int32, y_3 = (y_2 + ((y_2.toUInt32 >>> ((4 : Int32).toUInt32 &&& Int32.toUInt32 31)).toInt32)) &&& 252645135 → ∀ y_4 : Int32, y_4 = y_3 + ((y_3.toUInt32 >>> ((8 : Int32).toUInt32 &&& Int32.toUInt32 31)).toInt32) → ∀ y_5 : Int32, y_5 = y_4 + ((y_4.toUInt32 >>> ((16 : Int32).toUInt32 &&& Int32.toUInt32 31)).toInt32) → P (y_5 &&& 63) ()
def ve_J9_floorMod_7cf53 (p0 : Int32) (p1 : Int32) (P : Int32 → Unit → Prop)  : Prop := ¬ p1 = 0 ∧ ∀ y_2 : Int32, y_2 = p0 - p0 / p1 * p1 → (0 ≤ (p0 ^^^ p1) → P y_2 ()) ∧ (¬ 0 ≤ (p0 ^^^ p1) → (y_2 = 0 → P y_2 ()) ∧ (¬ y_2 = 0 → P (y_2 + p1) ()))
def ve_X0_bit (p0 : Int32) (P : Int32 → Unit → Prop)  : Prop := P (1 <<< (p0 &&& 31)) ()
def ve_X0_has (p0 : Int32) (p1 : Int32) (P : Int32 → Unit → Prop)  : Prop := ((p0 &&& (zbit p1)) = 0 → P 0 ()) ∧ (¬ (p0 &&& (zbit p1)) = 0 → P 1 ())
def ve_X0_lowest (p0 : Int32) (P : Int32 → Unit → Prop)  : Prop := P (p0 &&& (-p0)) ()
def ve_X0_cellCount (cc : Int32) (ac : Int32) (fc : Int32) (lc : Int32) (f : Nat → Int32) (P : Int32 → Unit → Prop)  : Prop := P (bc ac) ()
def ve_X0_cellsWith (cc : Int32) (ac : Int32) (fc : Int32) (lc : Int32) (f : Nat → Int32) (p1 : Int32) (P : Int32 → Unit → Prop)  : Prop := (p1 < 0 → P 0 ()) ∧ (¬ p1 < 0 → (10 ≤ p1 → P 0 ()) ∧ (¬ 10 ≤ p1 → vp_in p1 10 ∧ P (f p1.toNatClampNeg) ()))
def ve_X0_emptyCells (cc : Int32) (ac : Int32) (fc : Int32) (lc : Int32) (f : Nat → Int32) (P : Int32 → Unit → Prop)  : Prop := P (zcw f 0) ()
def vs_X0_numberIn_2 (cc : Int32) (ac : Int32) (fc : Int32) (lc : Int32) (f : Nat → Int32) (p1 : Int32) (P : Int32 → Unit → Prop) (J2 : Int32 → Prop) (x2 : Int32) : Prop := (10 ≤ x2 → P 0 ()) ∧ (¬ 10 ≤ x2 → vp_in x2 10 ∧ ((b2i (zhas (f x2.toNatClampNeg) p1)) = 0 → ∀ y_4 : Int32, y_4 = x2 + 1 → (J2 y_4)) ∧ (¬ (b2i (zhas (f x2.toNatClampNeg) p1)) = 0 → P x2 ()))
def ve_X0_numberIn (cc : Int32) (ac : Int32) (fc : Int32) (lc : Int32) (f : Nat → Int32) (p1 : Int32) (P : Int32 → Unit → Prop) (J2 : Int32 → Prop) : Prop := (J2 1)
def vs_X0_write_2 (cc : Int32) (ac : Int32) (fc : Int32) (lc : Int32) (f : Nat → Int32) (p1 : Int32) (p2 : Int32) (P : ((Nat → Int32)) → Prop) (J2 : Int32 → (Nat → Int32) → Prop) (x3 : Int32) (f' : Nat → Int32) : Prop := (10 ≤ x3 → P (f')) ∧ (¬ 10 ≤ x3 → (x3 = p2 → vp_in x3 10 ∧ vp_in x3 10 ∧ ∀ y_8 : Int32, y_8 = x3 + 1 → (J2 y_8 (upd f' x3.toNatClampNeg ((f' x3.toNatClampNeg) ||| (zbit p1))))) ∧ (¬ x3 = p2 → vp_in x3 10 ∧ vp_in x3 10 ∧ ∀ y_5 : Int32, y_5 = x3 + 1 → (J2 y_5 (upd f' x3.toNatClampNeg ((f' x3.toNatClampNeg) &&& ((zbit p1) ^^^ (-1)))))))
def ve_X0_write (cc : Int32) (ac : Int32) (fc : Int32) (lc : Int32) (f : Nat → Int32) (p1 : Int32) (p2 : Int32) (P : ((Nat → Int32)) → Prop) (J2 : Int32 → (Nat → Int32) → Prop) : Prop := (J2 0 f)
def ve_X0_beside (cc : Int32) (ac : Int32) (fc : Int32) (lc : Int32) (f : Nat → Int32) (p1 : Int32) (P : Int32 → Unit → Prop)  : Prop := ∀ y_1 : Int32, y_1 = ((p1 &&& (fc ^^^ (-1))).toUInt32 >>> ((1 : Int32).toUInt32 &&& Int32.toUInt32 31)).toInt32 → ∀ y_2 : Int32, y_2 = (p1 &&& (lc ^^^ (-1))) <<< (1 &&& 31) → ∀ y_3 : Int32, y_3 = (p1.toUInt32 >>> (cc.toUInt32 &&& Int32.toUInt32 31)).toInt32 → ∀ y_4 : Int32, y_4 = p1 <<< (cc &&& 31) → P ((((y_1 ||| y_2) ||| y_3) ||| y_4) &&& ac) ()
def ve_X0_hasEmptyNeighbour (cc : Int32) (ac : Int32) (fc : Int32) (lc : Int32) (f : Nat → Int32) (p1 : Int32) (P : Int32 → Unit → Prop)  : Prop := (((zbs cc ac fc lc (zbit p1)) &&& (f 0)) = 0 → P 0 ()) ∧ (¬ ((zbs cc ac fc lc (zbit p1)) &&& (f 0)) = 0 → P 1 ())
def vs_X0_spread_6 (cc : Int32) (ac : Int32) (fc : Int32) (lc : Int32) (f : Nat → Int32) (p1 : Int32) (p2 : Int32) (p3 : Int32) (P : Int32 → Unit → Prop) (J6 : Int32 → Int32 → Prop) (x4 : Int32) (x5 : Int32) : Prop := (p3 ≤ x5 → P x4 ()) ∧ (¬ p3 ≤ x5 → ∀ y_2 : Int32, y_2 = x4 ||| ((zbs cc ac fc lc x4) &&& p2) → (y_2 = x4 → P x4 ()) ∧ (¬ y_2 = x4 → ∀ y_4 : Int32, y_4 = x5 + 1 → (J6 y_2 y_4)))
def ve_X0_spread (cc : Int32) (ac : Int32) (fc : Int32) (lc : Int32) (f : Nat → Int32) (p1 : Int32) (p2 : Int32) (p3 : Int32) (P : Int32 → Unit → Prop) (J6 : Int32 → Int32 → Prop) : Prop := (J6 p1 0)
def ve_X0_fieldOf (cc : Int32) (ac : Int32) (fc : Int32) (lc : Int32) (f : Nat → Int32) (p1 : Int32) (P : Int32 → Unit → Prop)  : Prop := ∀ y_1 : Int32, y_1 = zni f p1 9 → (y_1 = 0 → P 0 ()) ∧ (¬ y_1 = 0 → P (zsp cc ac fc lc (zcw f y_1) ((12 : Int32).toNatClampNeg) (zbit p1)) ())
def ve_X0_roomOf (cc : Int32) (ac : Int32) (fc : Int32) (lc : Int32) (f : Nat → Int32) (p1 : Int32) (P : Int32 → Unit → Prop)  : Prop := ∀ y_1 : Int32, y_1 = zni f p1 9 → (y_1 = 0 → P 0 ()) ∧ (¬ y_1 = 0 → P (zsp cc ac fc lc ((zcw f y_1) ||| (f 0)) ((12 : Int32).toNatClampNeg) (zbit p1)) ())
def vs_X0_hasTooLargeField_11 (cc : Int32) (ac : Int32) (fc : Int32) (lc : Int32) (f : Nat → Int32) (p1 : Int32) (P : Int32 → Unit → Prop) (J11 : Int32 → Int32 → Int32 → Prop) (x2 : Int32) (x3 : Int32) (x4 : Int32) : Prop := (12 ≤ x4 → P 0 ()) ∧ (¬ 12 ≤ x4 → (x3 = 0 → P 0 ()) ∧ (¬ x3 = 0 → ∀ y_3 : Int32, y_3 = zsp cc ac fc lc x2 ((12 : Int32).toNatClampNeg) (zlow x3) → ((bc y_3) ≤ p1 → ∀ y_5 : Int32, y_5 = x3 &&& (y_3 ^^^ (-1)) → ∀ y_6 : Int32, y_6 = x4 + 1 → (J11 x2 y_5 y_6)) ∧ (¬ (bc y_3) ≤ p1 → P 1 ())))
def ve_X0_hasTooLargeField (cc : Int32) (ac : Int32) (fc : Int32) (lc : Int32) (f : Nat → Int32) (p1 : Int32) (P : Int32 → Unit → Prop) (J11 : Int32 → Int32 → Int32 → Prop) : Prop := ∀ y_7 : Int32, y_7 = zcw f p1 → (J11 y_7 y_7 0)
def vs_X0_hasTooLittleRoom_20 (cc : Int32) (ac : Int32) (fc : Int32) (lc : Int32) (f : Nat → Int32) (p1 : Int32) (P : Int32 → Unit → Prop) (J20 : Int32 → Int32 → Int32 → Prop) (x2 : Int32) (x3 : Int32) (x4 : Int32) : Prop := (12 ≤ x4 → P 0 ()) ∧ (¬ 12 ≤ x4 → (x3 = 0 → P 0 ()) ∧ (¬ x3 = 0 → ∀ y_3 : Int32, y_3 = zsp cc ac fc lc x2 ((12 : Int32).toNatClampNeg) (zlow x3) → (p1 ≤ (bc y_3) → ∀ y_5 : Int32, y_5 = x3 &&& (y_3 ^^^ (-1)) → ∀ y_6 : Int32, y_6 = x4 + 1 → (J20 x2 y_5 y_6)) ∧ (¬ p1 ≤ (bc y_3) → P 1 ())))
def ve_X0_hasTooLittleRoom (cc : Int32) (ac : Int32) (fc : Int32) (lc : Int32) (f : Nat → Int32) (p1 : Int32) (P : Int32 → Unit → Prop) (J20 : Int32 → Int32 → Int32 → Prop) : Prop := ∀ y_7 : Int32, y_7 = (zcw f p1) ||| (f 0) → ∀ y_8 : Int32, y_8 = zcw f p1 → (J20 y_7 y_8 0)
def vs_X0_isSound_2 (cc : Int32) (ac : Int32) (fc : Int32) (lc : Int32) (f : Nat → Int32) (P : Int32 → Unit → Prop) (J2 : Int32 → Prop) (x1 : Int32) : Prop := (9 < x1 → P 1 ()) ∧ (¬ 9 < x1 → ((b2i (zTL cc ac fc lc f x1)) = 0 → ((b2i (zTR cc ac fc lc f x1)) = 0 → ∀ y_4 : Int32, y_4 = x1 + 1 → (J2 y_4)) ∧ (¬ (b2i (zTR cc ac fc lc f x1)) = 0 → P 0 ())) ∧ (¬ (b2i (zTL cc ac fc lc f x1)) = 0 → P 0 ()))
def ve_X0_isSound (cc : Int32) (ac : Int32) (fc : Int32) (lc : Int32) (f : Nat → Int32) (P : Int32 → Unit → Prop) (J2 : Int32 → Prop) : Prop := (J2 1)
def vs_X0_canTake_48 (cc : Int32) (ac : Int32) (fc : Int32) (lc : Int32) (f : Nat → Int32) (p1 : Int32) (p2 : Int32) (P : Int32 → ((Nat → Int32)) → Prop) (J48 : Int32 → Int32 → (Nat → Int32) → Prop) (x3 : Int32) (x4 : Int32) (f' : Nat → Int32) : Prop := (9 < x4 → (narrow .boolean (.int x3) = .int x3 ∧ P x3 (zwr f' p1 0))) ∧ (¬ 9 < x4 → (x3 = 0 → (narrow .boolean (.int x3) = .int x3 ∧ P x3 (zwr f' p1 0))) ∧ (¬ x3 = 0 → (x4 = p2 → ∀ y_4 : Int32, y_4 = x4 + 1 → (J48 1 y_4 f')) ∧ (¬ x4 = p2 → ((b2i (zTR cc ac fc lc f' x4)) = 0 → ∀ y_7 : Int32, y_7 = x4 + 1 → (J48 1 y_7 f')) ∧ (¬ (b2i (zTR cc ac fc lc f' x4)) = 0 → ∀ y_6 : Int32, y_6 = x4 + 1 → (J48 0 y_6 f')))))
def ve_X0_canTake (cc : Int32) (ac : Int32) (fc : Int32) (lc : Int32) (f : Nat → Int32) (p1 : Int32) (p2 : Int32) (P : Int32 → ((Nat → Int32)) → Prop) (J48 : Int32 → Int32 → (Nat → Int32) → Prop) : Prop := ((b2i (zhas (f 0) p1)) = 0 → P 0 (f)) ∧ (¬ (b2i (zhas (f 0) p1)) = 0 → (p2 < (bc (zfo cc ac fc lc (zwr f p1 p2) p1)) → (J48 0 1 (zwr f p1 p2))) ∧ (¬ p2 < (bc (zfo cc ac fc lc (zwr f p1 p2) p1)) → ((b2i (zTR cc ac fc lc (zwr f p1 p2) p2)) = 0 → (J48 1 1 (zwr f p1 p2))) ∧ (¬ (b2i (zTR cc ac fc lc (zwr f p1 p2) p2)) = 0 → (J48 0 1 (zwr f p1 p2)))))
def vs_X0_leavesEnough_4 (cc : Int32) (ac : Int32) (fc : Int32) (lc : Int32) (f : Nat → Int32) (p1 : Int32) (P : Int32 → Unit → Prop) (J4 : Int32 → Int32 → Prop) (x2 : Int32) (x3 : Int32) : Prop := (9 < x3 → ((bc (f 0)) ≤ x2 → P 0 ()) ∧ (¬ (bc (f 0)) ≤ x2 → P 1 ())) ∧ (¬ 9 < x3 → (x3 = p1 → ∀ y_8 : Int32, y_8 = (bc (zcw f x3)) + 1 → (¬ x3 = 0) ∧ ∀ y_10 : Int32, y_10 = x2 + (zfm (-y_8) x3) → ∀ y_11 : Int32, y_11 = x3 + 1 → (J4 y_10 y_11)) ∧ (¬ x3 = p1 → ∀ y_4 : Int32, y_4 = (bc (zcw f x3)) + 0 → (¬ x3 = 0) ∧ ∀ y_6 : Int32, y_6 = x2 + (zfm (-y_4) x3) → ∀ y_7 : Int32, y_7 = x3 + 1 → (J4 y_6 y_7)))
def ve_X0_leavesEnough (cc : Int32) (ac : Int32) (fc : Int32) (lc : Int32) (f : Nat → Int32) (p1 : Int32) (P : Int32 → Unit → Prop) (J4 : Int32 → Int32 → Prop) : Prop := (J4 0 1)
def vs_X0_hiddenCells_4 (cc : Int32) (ac : Int32) (fc : Int32) (lc : Int32) (f : Nat → Int32) (P : Int32 → Unit → Prop) (J4 : Int32 → Int32 → Prop) (J19 : Int32 → Int32 → Int32 → Int32 → Prop) (x1 : Int32) (x2 : Int32) : Prop := (9 < x2 → P ((f 0) &&& (x1 ^^^ (-1))) ()) ∧ (¬ 9 < x2 → ∀ y_2 : Int32, y_2 = zcw f x2 → (J19 x1 x2 y_2 0))
def vs_X0_hiddenCells_19 (cc : Int32) (ac : Int32) (fc : Int32) (lc : Int32) (f : Nat → Int32) (P : Int32 → Unit → Prop) (J4 : Int32 → Int32 → Prop) (J19 : Int32 → Int32 → Int32 → Int32 → Prop) (x1 : Int32) (x2 : Int32) (x3 : Int32) (x4 : Int32) : Prop := (12 ≤ x4 → ∀ y_4 : Int32, y_4 = x2 + 1 → (J4 x1 y_4)) ∧ (¬ 12 ≤ x4 → (x3 = 0 → ∀ y_6 : Int32, y_6 = x2 + 1 → (J4 x1 y_6)) ∧ (¬ x3 = 0 → ∀ y_7 : Int32, y_7 = zsp cc ac fc lc (zcw f x2) ((12 : Int32).toNatClampNeg) (zlow x3) → ∀ y_8 : Int32, y_8 = x1 ||| (zsp cc ac fc lc (f 0) (((x2 - (bc y_7)) : Int32).toNatClampNeg) y_7) → ∀ y_9 : Int32, y_9 = x3 &&& (y_7 ^^^ (-1)) → ∀ y_10 : Int32, y_10 = x4 + 1 → (J19 y_8 x2 y_9 y_10)))
def ve_X0_hiddenCells (cc : Int32) (ac : Int32) (fc : Int32) (lc : Int32) (f : Nat → Int32) (P : Int32 → Unit → Prop) (J4 : Int32 → Int32 → Prop) (J19 : Int32 → Int32 → Int32 → Int32 → Prop) : Prop := (J4 0 1)
def ve_X0_isShape (cc : Int32) (ac : Int32) (fc : Int32) (lc : Int32) (f : Nat → Int32) (p1 : Int32) (p2 : Int32) (P : Int32 → Unit → Prop)  : Prop := ((bc p1) = p2 → ((((zbs cc ac fc lc p1) &&& (p1 ^^^ (-1))) &&& (zcw f p2)) = 0 → ((zsp cc ac fc lc p1 ((12 : Int32).toNatClampNeg) (zlow p1)) = p1 → P 1 ()) ∧ (¬ (zsp cc ac fc lc p1 ((12 : Int32).toNatClampNeg) (zlow p1)) = p1 → P 0 ())) ∧ (¬ (((zbs cc ac fc lc p1) &&& (p1 ^^^ (-1))) &&& (zcw f p2)) = 0 → P 0 ())) ∧ (¬ (bc p1) = p2 → P 0 ())
def vs_X0_empty_2 (cc : Int32) (ac : Int32) (fc : Int32) (lc : Int32) (f : Nat → Int32) (P : ((Nat → Int32)) → Prop) (J2 : Int32 → (Nat → Int32) → Prop) (x1 : Int32) (f' : Nat → Int32) : Prop := (10 ≤ x1 → P (f')) ∧ (¬ 10 ≤ x1 → (x1 = 0 → vp_in x1 10 ∧ ∀ y_6 : Int32, y_6 = x1 + 1 → (J2 y_6 (upd f' x1.toNatClampNeg ac))) ∧ (¬ x1 = 0 → vp_in x1 10 ∧ ∀ y_4 : Int32, y_4 = x1 + 1 → (J2 y_4 (upd f' x1.toNatClampNeg 0))))
def ve_X0_empty (cc : Int32) (ac : Int32) (fc : Int32) (lc : Int32) (f : Nat → Int32) (P : ((Nat → Int32)) → Prop) (J2 : Int32 → (Nat → Int32) → Prop) : Prop := (J2 0 f)
def vs_X0_layOut_24 (cc : Int32) (ac : Int32) (fc : Int32) (lc : Int32) (f : Nat → Int32) (p1 : Int32) (p2 : Int32) (P : (Int32 × Int32 × Int32 × Int32 × (Nat → Int32)) → Prop) (J24 : Int32 → Int32 → Int32 → Int32 → Int32 → (Nat → Int32) → Prop) (x3 : Int32) (cc' : Int32) (ac' : Int32) (fc' : Int32) (lc' : Int32) (f' : Nat → Int32) : Prop := (p1 ≤ x3 → P (cc', ac', fc', fc' <<< ((p2 - 1) &&& 31), zem f' ac')) ∧ (¬ p1 ≤ x3 → ∀ y_2 : Int32, y_2 = x3 + 1 → (J24 y_2 cc' ac' (fc' ||| (zbit (x3 * p2))) lc' f'))
def ve_X0_layOut (cc : Int32) (ac : Int32) (fc : Int32) (lc : Int32) (f : Nat → Int32) (p1 : Int32) (p2 : Int32) (P : (Int32 × Int32 × Int32 × Int32 × (Nat → Int32)) → Prop) (J24 : Int32 → Int32 → Int32 → Int32 → Int32 → (Nat → Int32) → Prop) : Prop := (J24 0 p2 ((zbit (p1 * p2)) - 1) 0 lc f)
def vs_X0_copyFrom_34 (cc : Int32) (ac : Int32) (fc : Int32) (lc : Int32) (f : Nat → Int32) (occ : Int32) (oac : Int32) (ofc : Int32) (olc : Int32) (of : Nat → Int32) (P : (Int32 × Int32 × Int32 × Int32 × (Nat → Int32)) → Prop) (J34 : Int32 → Int32 → Int32 → Int32 → Int32 → (Nat → Int32) → Prop) (x2 : Int32) (cc' : Int32) (ac' : Int32) (fc' : Int32) (lc' : Int32) (f' : Nat → Int32) : Prop := (10 ≤ x2 → P (cc', ac', fc', lc', f')) ∧ (¬ 10 ≤ x2 → (10 ≤ x2 → P (cc', ac', fc', lc', f')) ∧ (¬ 10 ≤ x2 → vp_in x2 10 ∧ vp_in x2 10 ∧ ∀ y_5 : Int32, y_5 = x2 + 1 → (J34 y_5 cc' ac' fc' lc' (upd f' x2.toNatClampNeg (of x2.toNatClampNeg)))))
def ve_X0_copyFrom (cc : Int32) (ac : Int32) (fc : Int32) (lc : Int32) (f : Nat → Int32) (occ : Int32) (oac : Int32) (ofc : Int32) (olc : Int32) (of : Nat → Int32) (P : (Int32 × Int32 × Int32 × Int32 × (Nat → Int32)) → Prop) (J34 : Int32 → Int32 → Int32 → Int32 → Int32 → (Nat → Int32) → Prop) : Prop := (J34 0 occ oac ofc olc f)
/-! the loops of the small methods: invariants, and that each body keeps them -/
theorem nI_10 : (10 : Int32) = nI 10 := rfl
theorem fx_le (a b : Int32) : a ≤ b ↔ a.toInt ≤ b.toInt := Int32.le_iff_toInt_le
theorem fx_lt (a b : Int32) : a < b ↔ a.toInt < b.toInt := Int32.lt_iff_toInt_lt
theorem cl_le (x : Int32) {k : Nat} (hk : k < 2 ^ 31) : x ≤ nI k ↔ x.toNatClampNeg ≤ k := by
  rw [fx_le, nI_toInt hk]
  show _ ↔ x.toInt.toNat ≤ k
  omega
theorem cl_lt (x : Int32) : x.toNatClampNeg < 2 ^ 31 := by
  have := Int32.toInt_lt x
  show x.toInt.toNat < 2 ^ 31
  omega
theorem k_le {a b : Nat} (ha : a < 2 ^ 31) (hb : b < 2 ^ 31) (h : nI a ≤ nI b) : a ≤ b := (nI_leI ha hb).mp h
theorem k_nle {a b : Nat} (ha : a < 2 ^ 31) (hb : b < 2 ^ 31) (h : ¬ nI a ≤ nI b) : b < a := Nat.lt_of_not_le (fun q => h ((nI_leI ha hb).mpr q))
theorem k_lt {a b : Nat} (ha : a < 2 ^ 31) (hb : b < 2 ^ 31) (h : nI a < nI b) : a < b := (nI_ltI ha hb).mp h
theorem k_nlt {a b : Nat} (ha : a < 2 ^ 31) (hb : b < 2 ^ 31) (h : ¬ nI a < nI b) : b ≤ a := Nat.le_of_not_lt (fun q => h ((nI_ltI ha hb).mpr q))
theorem upd_step {f g h : Nat → Int32} {k : Nat} {x : Int32} (hf : f = fun i => if i < k then h i else g i) (hx : x = h k) : upd f k x = fun i => if i < k + 1 then h i else g i := by
  funext i
  subst hf; subst hx
  simp only [upd]
  by_cases e : i = k
  · subst e; simp
  · by_cases q : i < k
    · simp [e, q, Nat.lt_succ_of_lt q]
    · simp [e, q, show ¬ i < k + 1 by omega]
theorem upd_all {f g h : Nat → Int32} {n : Nat} (hf : f = fun i => if i < n then h i else g i) (hg : ∀ i, ¬ i < n → h i = g i) : f = h := by
  subst hf
  funext i
  by_cases q : i < n
  · simp [q]
  · simp [q, hg i q]
theorem pe_J6_bitCount_0f7a4 (p0 : Int32) : ve_J6_bitCount_0f7a4 p0 (fun (r : Int32) (u : Unit) => r = bc p0) := by
  intro y1 h1 y2 h2 y3 h3 y4 h4 y5 h5
  subst h1; subst h2; subst h3; subst h4; subst h5
  rfl
theorem pe_J9_floorMod_7cf53 (p0 : Int32) (p1 : Int32) (hpre : ¬ p1 = 0) : ve_J9_floorMod_7cf53 p0 p1 (fun (r : Int32) (u : Unit) => r = zfm p0 p1) := by
  refine ⟨hpre, fun y hy => ⟨fun c => ?_, fun c => ⟨fun c2 => ?_, fun c2 => ?_⟩⟩⟩ <;> subst hy <;> unfold zfm
  · rw [if_neg (fun q => q.1 c)]; rfl
  · rw [if_neg (fun q => q.2 c2)]; rfl
  · rw [if_pos ⟨c, c2⟩]; rfl
theorem pe_X0_bit (p0 : Int32) : ve_X0_bit p0 (fun (r : Int32) (u : Unit) => r = zbit p0) := rfl
theorem pe_X0_has (p0 : Int32) (p1 : Int32) : ve_X0_has p0 p1 (fun (r : Int32) (u : Unit) => r = b2i (zhas p0 p1)) :=
  ⟨fun c => by simp [zhas, c, b2i], fun c => by simp [zhas, c, b2i]⟩
theorem pe_X0_lowest (p0 : Int32) : ve_X0_lowest p0 (fun (r : Int32) (u : Unit) => r = zlow p0) := rfl
theorem pe_X0_cellCount (cc : Int32) (ac : Int32) (fc : Int32) (lc : Int32) (f : Nat → Int32) : ve_X0_cellCount cc ac fc lc f (fun (r : Int32) (u : Unit) => r = bc ac) := rfl
theorem pe_X0_cellsWith (cc : Int32) (ac : Int32) (fc : Int32) (lc : Int32) (f : Nat → Int32) (p1 : Int32) : ve_X0_cellsWith cc ac fc lc f p1 (fun (r : Int32) (u : Unit) => r = zcw f p1) := by
  refine ⟨fun c => ?_, fun c => ⟨fun c2 => ?_, fun c2 => ⟨?_, ?_⟩⟩⟩
  · show (0 : Int32) = zcw f p1
    unfold zcw; rw [if_neg (fun q => q.1 c)]
  · show (0 : Int32) = zcw f p1
    unfold zcw; rw [if_neg (fun q => by have := q.2; rw [fx_le] at c2; rw [fx_lt] at this; omega)]
  · rw [vp_in_iff]; rw [fx_lt] at c; rw [fx_le] at c2; have h0 : (0 : Int32).toInt = 0 := by decide
    have h1 : (10 : Int32).toInt = 10 := by decide
    omega
  · show f p1.toNatClampNeg = zcw f p1
    unfold zcw; rw [if_pos ⟨c, by rw [fx_lt]; rw [fx_le] at c2; omega⟩]
theorem pe_X0_emptyCells (cc : Int32) (ac : Int32) (fc : Int32) (lc : Int32) (f : Nat → Int32) : ve_X0_emptyCells cc ac fc lc f (fun (r : Int32) (u : Unit) => r = f 0) := by
  show zcw f 0 = f 0
  rfl
def I_X0_numberIn_2 (cc : Int32) (ac : Int32) (fc : Int32) (lc : Int32) (f : Nat → Int32) (p1 : Int32) : Int32 → Prop := fun x2 => ∃ k j : Nat, 1 ≤ k ∧ k + j = 10 ∧ x2 = nI k ∧ zni f p1 j = zni f p1 9
def mu_X0_numberIn_2 (cc : Int32) (ac : Int32) (fc : Int32) (lc : Int32) (f : Nat → Int32) (p1 : Int32) : Int32 → Nat := fun x2 => 10 - x2.toNatClampNeg
theorem pl_X0_numberIn_2 (cc : Int32) (ac : Int32) (fc : Int32) (lc : Int32) (f : Nat → Int32) (p1 : Int32) : ∀ (x2 : Int32), I_X0_numberIn_2 cc ac fc lc f p1 x2 → vs_X0_numberIn_2 cc ac fc lc f p1 (fun (r : Int32) (u : Unit) => r = zni f p1 9) (fun (x29 : Int32) => I_X0_numberIn_2 cc ac fc lc f p1 x29 ∧ mu_X0_numberIn_2 cc ac fc lc f p1 x29 < mu_X0_numberIn_2 cc ac fc lc f p1 x2) x2 := by
  rintro x2 ⟨k, j, hk, hkj, rfl, he⟩
  refine ⟨fun c => ?_, fun c => ?_⟩
  · have c := k_le (a := 10) (by decide) (by omega) c
    obtain rfl : j = 0 := by omega
    exact he
  · have c := k_nle (a := 10) (by decide) (by omega) c
    obtain ⟨i, rfl⟩ : ∃ i, j = i + 1 := ⟨j - 1, by omega⟩
    have e9 : 9 - i = k := by omega
    rw [nI_clamp (by omega)]
    refine ⟨vp_in_nI c (by decide), fun c2 => ?_, fun c2 => ?_⟩
    · rintro y rfl
      rw [b2i_eq0] at c2
      refine ⟨⟨k + 1, i, by omega, by omega, nI_1 k, ?_⟩, ?_⟩
      · rw [← he]; simp only [zni, e9, c2]; rfl
      · show 10 - (nI k + 1).toNatClampNeg < 10 - (nI k).toNatClampNeg
        rw [nI_1, nI_clamp (by omega), nI_clamp (by omega)]; omega
    · rw [b2i_ne0] at c2
      rw [← he]; simp only [zni, e9, c2]; rfl
theorem pe_X0_numberIn (cc : Int32) (ac : Int32) (fc : Int32) (lc : Int32) (f : Nat → Int32) (p1 : Int32) : ve_X0_numberIn cc ac fc lc f p1 (fun (r : Int32) (u : Unit) => r = zni f p1 9) (I_X0_numberIn_2 cc ac fc lc f p1) := ⟨1, 9, by decide, rfl, rfl, rfl⟩
def I_X0_write_2 (cc : Int32) (ac : Int32) (fc : Int32) (lc : Int32) (f : Nat → Int32) (p1 : Int32) (p2 : Int32) : Int32 → (Nat → Int32) → Prop := fun x3 f' => ∃ k : Nat, k ≤ 10 ∧ x3 = nI k ∧ f' = fun i => if i < k then zwr f p1 p2 i else f i
def mu_X0_write_2 (cc : Int32) (ac : Int32) (fc : Int32) (lc : Int32) (f : Nat → Int32) (p1 : Int32) (p2 : Int32) : Int32 → (Nat → Int32) → Nat := fun x3 f' => 10 - x3.toNatClampNeg
theorem pl_X0_write_2 (cc : Int32) (ac : Int32) (fc : Int32) (lc : Int32) (f : Nat → Int32) (p1 : Int32) (p2 : Int32) : ∀ (x3 : Int32) (f' : Nat → Int32), I_X0_write_2 cc ac fc lc f p1 p2 x3 f' → vs_X0_write_2 cc ac fc lc f p1 p2 (fun (u : (Nat → Int32)) => u = (zwr f p1 p2)) (fun (x39 : Int32) (f9 : Nat → Int32) => I_X0_write_2 cc ac fc lc f p1 p2 x39 f9 ∧ mu_X0_write_2 cc ac fc lc f p1 p2 x39 f9 < mu_X0_write_2 cc ac fc lc f p1 p2 x3 f') x3 f' := by
  rintro x3 f' ⟨k, hk, rfl, hf⟩
  refine ⟨fun c => ?_, fun c => ?_⟩
  · have c := k_le (a := 10) (by decide) (by omega) c
    obtain rfl : k = 10 := by omega
    exact upd_all hf (fun i hi => by simp [zwr, hi])
  · have c := k_nle (a := 10) (by decide) (by omega) c
    have e1 : (nI k).toNatClampNeg = k := nI_clamp (by omega)
    have e2 : f' k = f k := by rw [hf]; simp
    have hm : mu_X0_write_2 cc ac fc lc f p1 p2 (nI k + 1) f' < mu_X0_write_2 cc ac fc lc f p1 p2 (nI k) f' := by
      show 10 - (nI k + 1).toNatClampNeg < 10 - (nI k).toNatClampNeg
      rw [nI_1, nI_clamp (by omega), nI_clamp (by omega)]; omega
    refine ⟨fun c2 => ⟨vp_in_nI c (by decide), vp_in_nI c (by decide), ?_⟩, fun c2 => ⟨vp_in_nI c (by decide), vp_in_nI c (by decide), ?_⟩⟩ <;> rintro y rfl <;> refine ⟨⟨k + 1, by omega, nI_1 k, ?_⟩, hm⟩ <;> rw [e1, e2]
    · exact upd_step hf (by simp [zwr, c, c2])
    · exact upd_step hf (by simp [zwr, c, c2])
theorem pe_X0_write (cc : Int32) (ac : Int32) (fc : Int32) (lc : Int32) (f : Nat → Int32) (p1 : Int32) (p2 : Int32) : ve_X0_write cc ac fc lc f p1 p2 (fun (u : (Nat → Int32)) => u = (zwr f p1 p2)) (I_X0_write_2 cc ac fc lc f p1 p2) := ⟨0, by decide, rfl, by funext i; simp⟩
theorem pe_X0_beside (cc : Int32) (ac : Int32) (fc : Int32) (lc : Int32) (f : Nat → Int32) (p1 : Int32) : ve_X0_beside cc ac fc lc f p1 (fun (r : Int32) (u : Unit) => r = zbs cc ac fc lc p1) := by
  intro y1 h1 y2 h2 y3 h3 y4 h4
  subst h1; subst h2; subst h3; subst h4
  rfl
theorem pe_X0_hasEmptyNeighbour (cc : Int32) (ac : Int32) (fc : Int32) (lc : Int32) (f : Nat → Int32) (p1 : Int32) : ve_X0_hasEmptyNeighbour cc ac fc lc f p1 (fun (r : Int32) (u : Unit) => r = b2i (!decide (zbs cc ac fc lc (zbit p1) &&& f 0 = 0))) :=
  ⟨fun c => by simp [c, b2i], fun c => by simp [c, b2i]⟩
def I_X0_spread_6 (cc : Int32) (ac : Int32) (fc : Int32) (lc : Int32) (f : Nat → Int32) (p1 : Int32) (p2 : Int32) (p3 : Int32) : Int32 → Int32 → Prop := fun x4 x5 => ∃ k j : Nat, k + j = p3.toNatClampNeg ∧ x5 = nI k ∧ zsp cc ac fc lc p2 j x4 = zsp cc ac fc lc p2 p3.toNatClampNeg p1
def mu_X0_spread_6 (cc : Int32) (ac : Int32) (fc : Int32) (lc : Int32) (f : Nat → Int32) (p1 : Int32) (p2 : Int32) (p3 : Int32) : Int32 → Int32 → Nat := fun x4 x5 => p3.toNatClampNeg - x5.toNatClampNeg
theorem pl_X0_spread_6 (cc : Int32) (ac : Int32) (fc : Int32) (lc : Int32) (f : Nat → Int32) (p1 : Int32) (p2 : Int32) (p3 : Int32) : ∀ (x4 : Int32) (x5 : Int32), I_X0_spread_6 cc ac fc lc f p1 p2 p3 x4 x5 → vs_X0_spread_6 cc ac fc lc f p1 p2 p3 (fun (r : Int32) (u : Unit) => r = zsp cc ac fc lc p2 ((p3 : Int32).toNatClampNeg) p1) (fun (x49 : Int32) (x59 : Int32) => I_X0_spread_6 cc ac fc lc f p1 p2 p3 x49 x59 ∧ mu_X0_spread_6 cc ac fc lc f p1 p2 p3 x49 x59 < mu_X0_spread_6 cc ac fc lc f p1 p2 p3 x4 x5) x4 x5 := by
  rintro x4 x5 ⟨k, j, hkj, rfl, he⟩
  have hb := cl_lt p3
  refine ⟨fun c => ?_, fun c => ?_⟩
  · rw [cl_le p3 (by omega)] at c
    obtain rfl : j = 0 := by omega
    exact he
  · rw [cl_le p3 (by omega)] at c
    obtain ⟨i, rfl⟩ : ∃ i, j = i + 1 := ⟨j - 1, by omega⟩
    rintro y rfl
    refine ⟨fun c2 => ?_, fun c2 => ?_⟩
    · rw [← he]; simp only [zsp, if_pos c2]
    · rintro y rfl
      refine ⟨⟨k + 1, i, by omega, nI_1 k, ?_⟩, ?_⟩
      · rw [← he]; simp only [zsp, if_neg c2]
      · show p3.toNatClampNeg - (nI k + 1).toNatClampNeg < p3.toNatClampNeg - (nI k).toNatClampNeg
        rw [nI_1, nI_clamp (by omega), nI_clamp (by omega)]; omega
theorem pe_X0_spread (cc : Int32) (ac : Int32) (fc : Int32) (lc : Int32) (f : Nat → Int32) (p1 : Int32) (p2 : Int32) (p3 : Int32) : ve_X0_spread cc ac fc lc f p1 p2 p3 (fun (r : Int32) (u : Unit) => r = zsp cc ac fc lc p2 ((p3 : Int32).toNatClampNeg) p1) (I_X0_spread_6 cc ac fc lc f p1 p2 p3) := ⟨0, _, Nat.zero_add _, rfl, rfl⟩
theorem pe_X0_fieldOf (cc : Int32) (ac : Int32) (fc : Int32) (lc : Int32) (f : Nat → Int32) (p1 : Int32) : ve_X0_fieldOf cc ac fc lc f p1 (fun (r : Int32) (u : Unit) => r = zfo cc ac fc lc f p1) := by
  rintro y rfl
  exact ⟨fun c => by show _ = zfo cc ac fc lc f p1; unfold zfo; rw [if_pos c], fun c => by show _ = zfo cc ac fc lc f p1; unfold zfo; rw [if_neg c]; rfl⟩
theorem pe_X0_roomOf (cc : Int32) (ac : Int32) (fc : Int32) (lc : Int32) (f : Nat → Int32) (p1 : Int32) : ve_X0_roomOf cc ac fc lc f p1 (fun (r : Int32) (u : Unit) => r = zro cc ac fc lc f p1) := by
  rintro y rfl
  exact ⟨fun c => by show _ = zro cc ac fc lc f p1; unfold zro; rw [if_pos c], fun c => by show _ = zro cc ac fc lc f p1; unfold zro; rw [if_neg c]; rfl⟩
theorem cl_12 : (12 : Int32).toNatClampNeg = 12 := by decide
def I_X0_hasTooLargeField_11 (cc : Int32) (ac : Int32) (fc : Int32) (lc : Int32) (f : Nat → Int32) (p1 : Int32) : Int32 → Int32 → Int32 → Prop := fun x2 x3 x4 => x2 = zcw f p1 ∧ ∃ k j : Nat, k + j = 12 ∧ x4 = nI k ∧ ztl cc ac fc lc x2 p1 j x3 = zTL cc ac fc lc f p1
def mu_X0_hasTooLargeField_11 (cc : Int32) (ac : Int32) (fc : Int32) (lc : Int32) (f : Nat → Int32) (p1 : Int32) : Int32 → Int32 → Int32 → Nat := fun x2 x3 x4 => 12 - x4.toNatClampNeg
theorem pl_X0_hasTooLargeField_11 (cc : Int32) (ac : Int32) (fc : Int32) (lc : Int32) (f : Nat → Int32) (p1 : Int32) : ∀ (x2 : Int32) (x3 : Int32) (x4 : Int32), I_X0_hasTooLargeField_11 cc ac fc lc f p1 x2 x3 x4 → vs_X0_hasTooLargeField_11 cc ac fc lc f p1 (fun (r : Int32) (u : Unit) => r = b2i (zTL cc ac fc lc f p1)) (fun (x29 : Int32) (x39 : Int32) (x49 : Int32) => I_X0_hasTooLargeField_11 cc ac fc lc f p1 x29 x39 x49 ∧ mu_X0_hasTooLargeField_11 cc ac fc lc f p1 x29 x39 x49 < mu_X0_hasTooLargeField_11 cc ac fc lc f p1 x2 x3 x4) x2 x3 x4 := by
  rintro x2 x3 x4 ⟨hx, k, j, hkj, rfl, he⟩
  refine ⟨fun c => ?_, fun c => ?_⟩
  · have c := k_le (a := 12) (by decide) (by omega) c
    obtain rfl : j = 0 := by omega
    show (0 : Int32) = b2i _
    rw [← he]; rfl
  · have c := k_nle (a := 12) (by decide) (by omega) c
    obtain ⟨i, rfl⟩ : ∃ i, j = i + 1 := ⟨j - 1, by omega⟩
    refine ⟨fun c2 => ?_, fun c2 => ?_⟩
    · show (0 : Int32) = b2i _
      rw [← he]; simp only [ztl, if_pos c2]; rfl
    · rintro y rfl
      rw [cl_12]
      refine ⟨fun c3 => ?_, fun c3 => ?_⟩
      · rintro y2 rfl y3 rfl
        refine ⟨⟨hx, k + 1, i, by omega, nI_1 k, ?_⟩, ?_⟩
        · rw [← he]; simp only [ztl, if_neg c2, if_neg (Int32.not_lt.mpr c3)]
        · show 12 - (nI k + 1).toNatClampNeg < 12 - (nI k).toNatClampNeg
          rw [nI_1, nI_clamp (by omega), nI_clamp (by omega)]; omega
      · show (1 : Int32) = b2i _
        rw [← he]; simp only [ztl, if_neg c2, if_pos (Int32.not_le.mp c3)]; rfl
theorem pe_X0_hasTooLargeField (cc : Int32) (ac : Int32) (fc : Int32) (lc : Int32) (f : Nat → Int32) (p1 : Int32) : ve_X0_hasTooLargeField cc ac fc lc f p1 (fun (r : Int32) (u : Unit) => r = b2i (zTL cc ac fc lc f p1)) (I_X0_hasTooLargeField_11 cc ac fc lc f p1) := by
  rintro y rfl
  exact ⟨rfl, 0, 12, rfl, rfl, rfl⟩
def I_X0_hasTooLittleRoom_20 (cc : Int32) (ac : Int32) (fc : Int32) (lc : Int32) (f : Nat → Int32) (p1 : Int32) : Int32 → Int32 → Int32 → Prop := fun x2 x3 x4 => x2 = zcw f p1 ||| f 0 ∧ ∃ k j : Nat, k + j = 12 ∧ x4 = nI k ∧ ztr cc ac fc lc x2 p1 j x3 = zTR cc ac fc lc f p1
def mu_X0_hasTooLittleRoom_20 (cc : Int32) (ac : Int32) (fc : Int32) (lc : Int32) (f : Nat → Int32) (p1 : Int32) : Int32 → Int32 → Int32 → Nat := fun x2 x3 x4 => 12 - x4.toNatClampNeg
theorem pl_X0_hasTooLittleRoom_20 (cc : Int32) (ac : Int32) (fc : Int32) (lc : Int32) (f : Nat → Int32) (p1 : Int32) : ∀ (x2 : Int32) (x3 : Int32) (x4 : Int32), I_X0_hasTooLittleRoom_20 cc ac fc lc f p1 x2 x3 x4 → vs_X0_hasTooLittleRoom_20 cc ac fc lc f p1 (fun (r : Int32) (u : Unit) => r = b2i (zTR cc ac fc lc f p1)) (fun (x29 : Int32) (x39 : Int32) (x49 : Int32) => I_X0_hasTooLittleRoom_20 cc ac fc lc f p1 x29 x39 x49 ∧ mu_X0_hasTooLittleRoom_20 cc ac fc lc f p1 x29 x39 x49 < mu_X0_hasTooLittleRoom_20 cc ac fc lc f p1 x2 x3 x4) x2 x3 x4 := by
  rintro x2 x3 x4 ⟨hx, k, j, hkj, rfl, he⟩
  refine ⟨fun c => ?_, fun c => ?_⟩
  · have c := k_le (a := 12) (by decide) (by omega) c
    obtain rfl : j = 0 := by omega
    show (0 : Int32) = b2i _
    rw [← he]; rfl
  · have c := k_nle (a := 12) (by decide) (by omega) c
    obtain ⟨i, rfl⟩ : ∃ i, j = i + 1 := ⟨j - 1, by omega⟩
    refine ⟨fun c2 => ?_, fun c2 => ?_⟩
    · show (0 : Int32) = b2i _
      rw [← he]; simp only [ztr, if_pos c2]; rfl
    · rintro y rfl
      rw [cl_12]
      refine ⟨fun c3 => ?_, fun c3 => ?_⟩
      · rintro y2 rfl y3 rfl
        refine ⟨⟨hx, k + 1, i, by omega, nI_1 k, ?_⟩, ?_⟩
        · rw [← he]; simp only [ztr, if_neg c2, if_neg (Int32.not_lt.mpr c3)]
        · show 12 - (nI k + 1).toNatClampNeg < 12 - (nI k).toNatClampNeg
          rw [nI_1, nI_clamp (by omega), nI_clamp (by omega)]; omega
      · show (1 : Int32) = b2i _
        rw [← he]; simp only [ztr, if_neg c2, if_pos (Int32.not_le.mp c3)]; rfl
theorem pe_X0_hasTooLittleRoom (cc : Int32) (ac : Int32) (fc : Int32) (lc : Int32) (f : Nat → Int32) (p1 : Int32) : ve_X0_hasTooLittleRoom cc ac fc lc f p1 (fun (r : Int32) (u : Unit) => r = b2i (zTR cc ac fc lc f p1)) (I_X0_hasTooLittleRoom_20 cc ac fc lc f p1) := by
  rintro y rfl y2 rfl
  exact ⟨rfl, 0, 12, rfl, rfl, rfl⟩
def I_X0_isSound_2 (cc : Int32) (ac : Int32) (fc : Int32) (lc : Int32) (f : Nat → Int32) : Int32 → Prop := fun x1 => ∃ k j : Nat, k + j = 10 ∧ x1 = nI k ∧ zso cc ac fc lc f j = zso cc ac fc lc f 9
def mu_X0_isSound_2 (cc : Int32) (ac : Int32) (fc : Int32) (lc : Int32) (f : Nat → Int32) : Int32 → Nat := fun x1 => 10 - x1.toNatClampNeg
theorem pl_X0_isSound_2 (cc : Int32) (ac : Int32) (fc : Int32) (lc : Int32) (f : Nat → Int32) : ∀ (x1 : Int32), I_X0_isSound_2 cc ac fc lc f x1 → vs_X0_isSound_2 cc ac fc lc f (fun (r : Int32) (u : Unit) => r = b2i (zso cc ac fc lc f 9)) (fun (x19 : Int32) => I_X0_isSound_2 cc ac fc lc f x19 ∧ mu_X0_isSound_2 cc ac fc lc f x19 < mu_X0_isSound_2 cc ac fc lc f x1) x1 := by
  rintro x1 ⟨k, j, hkj, rfl, he⟩
  refine ⟨fun c => ?_, fun c => ?_⟩
  · have c := k_lt (a := 9) (by decide) (by omega) c
    obtain rfl : j = 0 := by omega
    show (1 : Int32) = b2i _
    rw [← he]; rfl
  · have c := k_nlt (a := 9) (by decide) (by omega) c
    obtain ⟨i, rfl⟩ : ∃ i, j = i + 1 := ⟨j - 1, by omega⟩
    have e9 : 9 - i = k := by omega
    refine ⟨fun c2 => ⟨fun c3 => ?_, fun c3 => ?_⟩, fun c2 => ?_⟩
    · rintro y rfl
      rw [b2i_eq0] at c2 c3
      refine ⟨⟨k + 1, i, by omega, nI_1 k, ?_⟩, ?_⟩
      · rw [← he]; simp [zso, e9, c2, c3]
      · show 10 - (nI k + 1).toNatClampNeg < 10 - (nI k).toNatClampNeg
        rw [nI_1, nI_clamp (by omega), nI_clamp (by omega)]; omega
    · rw [b2i_ne0] at c3
      show (0 : Int32) = b2i _
      rw [← he]; simp [zso, e9, c3, b2i]
    · rw [b2i_ne0] at c2
      show (0 : Int32) = b2i _
      rw [← he]; simp [zso, e9, c2, b2i]
theorem pe_X0_isSound (cc : Int32) (ac : Int32) (fc : Int32) (lc : Int32) (f : Nat → Int32) : ve_X0_isSound cc ac fc lc f (fun (r : Int32) (u : Unit) => r = b2i (zso cc ac fc lc f 9)) (I_X0_isSound_2 cc ac fc lc f) := ⟨1, 9, rfl, rfl, rfl⟩
def I_X0_canTake_48 (cc : Int32) (ac : Int32) (fc : Int32) (lc : Int32) (f : Nat → Int32) (p1 : Int32) (p2 : Int32) : Int32 → Int32 → (Nat → Int32) → Prop := fun x3 x4 f' => f' = zwr f p1 p2 ∧ zhas (f 0) p1 = true ∧ ∃ (k j : Nat) (b : Bool), k + j = 10 ∧ x4 = nI k ∧ x3 = b2i b ∧ zctL cc ac fc lc f' p2 j b = zct cc ac fc lc f p1 p2
def mu_X0_canTake_48 (cc : Int32) (ac : Int32) (fc : Int32) (lc : Int32) (f : Nat → Int32) (p1 : Int32) (p2 : Int32) : Int32 → Int32 → (Nat → Int32) → Nat := fun x3 x4 f' => 10 - x4.toNatClampNeg
theorem zctL_false {cc ac fc lc : Int32} {f : Nat → Int32} {n : Int32} : ∀ j, zctL cc ac fc lc f n j false = false
  | 0 => rfl
  | j + 1 => by simp [zctL]
theorem pl_X0_canTake_48 (cc : Int32) (ac : Int32) (fc : Int32) (lc : Int32) (f : Nat → Int32) (p1 : Int32) (p2 : Int32) : ∀ (x3 : Int32) (x4 : Int32) (f' : Nat → Int32), I_X0_canTake_48 cc ac fc lc f p1 p2 x3 x4 f' → vs_X0_canTake_48 cc ac fc lc f p1 p2 (fun (r : Int32) (u : (Nat → Int32)) => r = b2i (zct cc ac fc lc f p1 p2) ∧ u = (zctf f p1 p2)) (fun (x39 : Int32) (x49 : Int32) (f9 : Nat → Int32) => I_X0_canTake_48 cc ac fc lc f p1 p2 x39 x49 f9 ∧ mu_X0_canTake_48 cc ac fc lc f p1 p2 x39 x49 f9 < mu_X0_canTake_48 cc ac fc lc f p1 p2 x3 x4 f') x3 x4 f' := by
  rintro x3 x4 f' ⟨hf, hh, k, j, b, hkj, rfl, rfl, he⟩
  have hu : zwr f' p1 0 = zctf f p1 p2 := by rw [hf]; unfold zctf; rw [hh]; rfl
  refine ⟨fun c => ?_, fun c => ?_⟩
  · have c := k_lt (a := 9) (by decide) (by omega) c
    obtain rfl : j = 0 := by omega
    exact ⟨b2i_narrow _, by rw [← he]; rfl, hu⟩
  · have c := k_nlt (a := 9) (by decide) (by omega) c
    obtain ⟨i, rfl⟩ : ∃ i, j = i + 1 := ⟨j - 1, by omega⟩
    have e9 : 9 - i = k := by omega
    have hm : ∀ z, mu_X0_canTake_48 cc ac fc lc f p1 p2 z (nI k + 1) f' < mu_X0_canTake_48 cc ac fc lc f p1 p2 (b2i b) (nI k) f' := fun z => by
      show 10 - (nI k + 1).toNatClampNeg < 10 - (nI k).toNatClampNeg
      rw [nI_1, nI_clamp (by omega), nI_clamp (by omega)]; omega
    refine ⟨fun c2 => ?_, fun c2 => ?_⟩
    · rw [b2i_eq0] at c2
      subst c2
      rw [zctL_false] at he
      exact ⟨b2i_narrow _, by rw [← he], hu⟩
    · rw [b2i_ne0] at c2
      subst c2
      simp only [zctL, e9, if_true] at he
      refine ⟨fun c3 => ?_, fun c3 => ⟨fun c4 => ?_, fun c4 => ?_⟩⟩
      · rintro y rfl
        refine ⟨⟨hf, hh, k + 1, i, true, by omega, nI_1 k, rfl, ?_⟩, hm _⟩
        rw [← he, decide_eq_true c3, Bool.true_or]
      · rintro y rfl
        rw [b2i_eq0] at c4
        refine ⟨⟨hf, hh, k + 1, i, true, by omega, nI_1 k, rfl, ?_⟩, hm _⟩
        rw [← he, c4, Bool.not_false, Bool.or_true]
      · rintro y rfl
        rw [b2i_ne0] at c4
        refine ⟨⟨hf, hh, k + 1, i, false, by omega, nI_1 k, rfl, ?_⟩, hm _⟩
        rw [← he, c4, decide_eq_false c3]; rfl
theorem pe_X0_canTake (cc : Int32) (ac : Int32) (fc : Int32) (lc : Int32) (f : Nat → Int32) (p1 : Int32) (p2 : Int32) : ve_X0_canTake cc ac fc lc f p1 p2 (fun (r : Int32) (u : (Nat → Int32)) => r = b2i (zct cc ac fc lc f p1 p2) ∧ u = (zctf f p1 p2)) (I_X0_canTake_48 cc ac fc lc f p1 p2) := by
  refine ⟨fun c => ?_, fun c => ?_⟩
  · rw [b2i_eq0] at c
    exact ⟨by simp [zct, c, b2i], by simp [zctf, c]⟩
  · rw [b2i_ne0] at c
    refine ⟨fun c2 => ?_, fun c2 => ⟨fun c3 => ?_, fun c3 => ?_⟩⟩
    · refine ⟨rfl, c, 1, 9, false, rfl, rfl, rfl, ?_⟩
      unfold zct; rw [c, decide_eq_false (Int32.not_le.mpr c2)]; rfl
    · rw [b2i_eq0] at c3
      refine ⟨rfl, c, 1, 9, true, rfl, rfl, rfl, ?_⟩
      unfold zct; rw [c, decide_eq_true (Int32.not_lt.mp c2), c3]; rfl
    · rw [b2i_ne0] at c3
      refine ⟨rfl, c, 1, 9, false, rfl, rfl, rfl, ?_⟩
      unfold zct; rw [c, c3, Bool.not_true, Bool.and_false]; rfl
def I_X0_leavesEnough_4 (cc : Int32) (ac : Int32) (fc : Int32) (lc : Int32) (f : Nat → Int32) (p1 : Int32) : Int32 → Int32 → Prop := fun x2 x3 => ∃ k j : Nat, 1 ≤ k ∧ k + j = 10 ∧ x3 = nI k ∧ zle f p1 j x2 = zle f p1 9 0
def mu_X0_leavesEnough_4 (cc : Int32) (ac : Int32) (fc : Int32) (lc : Int32) (f : Nat → Int32) (p1 : Int32) : Int32 → Int32 → Nat := fun x2 x3 => 10 - x3.toNatClampNeg
theorem pl_X0_leavesEnough_4 (cc : Int32) (ac : Int32) (fc : Int32) (lc : Int32) (f : Nat → Int32) (p1 : Int32) : ∀ (x2 : Int32) (x3 : Int32), I_X0_leavesEnough_4 cc ac fc lc f p1 x2 x3 → vs_X0_leavesEnough_4 cc ac fc lc f p1 (fun (r : Int32) (u : Unit) => r = b2i (decide (zle f p1 9 0 < bc (f 0)))) (fun (x29 : Int32) (x39 : Int32) => I_X0_leavesEnough_4 cc ac fc lc f p1 x29 x39 ∧ mu_X0_leavesEnough_4 cc ac fc lc f p1 x29 x39 < mu_X0_leavesEnough_4 cc ac fc lc f p1 x2 x3) x2 x3 := by
  rintro x2 x3 ⟨k, j, hk, hkj, rfl, he⟩
  refine ⟨fun c => ?_, fun c => ?_⟩
  · have c := k_lt (a := 9) (by decide) (by omega) c
    obtain rfl : j = 0 := by omega
    have he : x2 = zle f p1 9 0 := he
    refine ⟨fun c2 => ?_, fun c2 => ?_⟩
    · show (0 : Int32) = b2i _
      rw [← he, decide_eq_false (Int32.not_lt.mpr c2)]; rfl
    · show (1 : Int32) = b2i _
      rw [← he, decide_eq_true (Int32.not_le.mp c2)]; rfl
  · have c := k_nlt (a := 9) (by decide) (by omega) c
    obtain ⟨i, rfl⟩ : ∃ i, j = i + 1 := ⟨j - 1, by omega⟩
    have e9 : 9 - i = k := by omega
    have hz : ¬ nI k = 0 := nI_ne0 (by omega) (by omega)
    refine ⟨fun c2 => ?_, fun c2 => ?_⟩
    all_goals
      rintro y rfl
      refine ⟨hz, ?_⟩
      rintro y rfl y2 rfl
      refine ⟨⟨k + 1, i, by omega, by omega, nI_1 k, ?_⟩, ?_⟩
      · rw [← he]; simp only [zle, e9, c2, if_true, if_false]
      · show 10 - (nI k + 1).toNatClampNeg < 10 - (nI k).toNatClampNeg
        rw [nI_1, nI_clamp (by omega), nI_clamp (by omega)]; omega
theorem pe_X0_leavesEnough (cc : Int32) (ac : Int32) (fc : Int32) (lc : Int32) (f : Nat → Int32) (p1 : Int32) : ve_X0_leavesEnough cc ac fc lc f p1 (fun (r : Int32) (u : Unit) => r = b2i (decide (zle f p1 9 0 < bc (f 0)))) (I_X0_leavesEnough_4 cc ac fc lc f p1) := ⟨1, 9, by decide, rfl, rfl, rfl⟩
def I_X0_hiddenCells_4 (cc : Int32) (ac : Int32) (fc : Int32) (lc : Int32) (f : Nat → Int32) : Int32 → Int32 → Prop := fun x1 x2 => ∃ k j : Nat, k + j = 10 ∧ x2 = nI k ∧ zhiO cc ac fc lc f j x1 = zhiO cc ac fc lc f 9 0
def mu_X0_hiddenCells_4 (cc : Int32) (ac : Int32) (fc : Int32) (lc : Int32) (f : Nat → Int32) : Int32 → Int32 → Nat := fun x1 x2 => (10 - x2.toNatClampNeg) * 20 + 15
def I_X0_hiddenCells_19 (cc : Int32) (ac : Int32) (fc : Int32) (lc : Int32) (f : Nat → Int32) : Int32 → Int32 → Int32 → Int32 → Prop := fun x1 x2 x3 x4 => ∃ k j q i : Nat, k + (j + 1) = 10 ∧ x2 = nI k ∧ q + i = 12 ∧ x4 = nI q ∧ zhiO cc ac fc lc f j (zhiI cc ac fc lc f (nI k) i x3 x1) = zhiO cc ac fc lc f 9 0
def mu_X0_hiddenCells_19 (cc : Int32) (ac : Int32) (fc : Int32) (lc : Int32) (f : Nat → Int32) : Int32 → Int32 → Int32 → Int32 → Nat := fun x1 x2 x3 x4 => (10 - x2.toNatClampNeg) * 20 + (12 - x4.toNatClampNeg)
theorem pl_X0_hiddenCells_4 (cc : Int32) (ac : Int32) (fc : Int32) (lc : Int32) (f : Nat → Int32) : ∀ (x1 : Int32) (x2 : Int32), I_X0_hiddenCells_4 cc ac fc lc f x1 x2 → vs_X0_hiddenCells_4 cc ac fc lc f (fun (r : Int32) (u : Unit) => r = zhi cc ac fc lc f) (fun (x19 : Int32) (x29 : Int32) => I_X0_hiddenCells_4 cc ac fc lc f x19 x29 ∧ mu_X0_hiddenCells_4 cc ac fc lc f x19 x29 < mu_X0_hiddenCells_4 cc ac fc lc f x1 x2) (fun (x19 : Int32) (x29 : Int32) (x39 : Int32) (x49 : Int32) => I_X0_hiddenCells_19 cc ac fc lc f x19 x29 x39 x49 ∧ mu_X0_hiddenCells_19 cc ac fc lc f x19 x29 x39 x49 < mu_X0_hiddenCells_4 cc ac fc lc f x1 x2) x1 x2 := by
  rintro x1 x2 ⟨k, j, hkj, rfl, he⟩
  refine ⟨fun c => ?_, fun c => ?_⟩
  · have c := k_lt (a := 9) (by decide) (by omega) c
    obtain rfl : j = 0 := by omega
    have he : x1 = zhiO cc ac fc lc f 9 0 := he
    show _ = zhi cc ac fc lc f
    unfold zhi; rw [← he]
  · have c := k_nlt (a := 9) (by decide) (by omega) c
    obtain ⟨i, rfl⟩ : ∃ i, j = i + 1 := ⟨j - 1, by omega⟩
    have e9 : 9 - i = k := by omega
    rintro y rfl
    refine ⟨⟨k, i, 0, 12, hkj, rfl, rfl, rfl, ?_⟩, ?_⟩
    · rw [← he]; simp only [zhiO, e9]
    · show (10 - (nI k).toNatClampNeg) * 20 + (12 - (0 : Int32).toNatClampNeg) < (10 - (nI k).toNatClampNeg) * 20 + 15
      omega
theorem pl_X0_hiddenCells_19 (cc : Int32) (ac : Int32) (fc : Int32) (lc : Int32) (f : Nat → Int32) : ∀ (x1 : Int32) (x2 : Int32) (x3 : Int32) (x4 : Int32), I_X0_hiddenCells_19 cc ac fc lc f x1 x2 x3 x4 → vs_X0_hiddenCells_19 cc ac fc lc f (fun (r : Int32) (u : Unit) => r = zhi cc ac fc lc f) (fun (x19 : Int32) (x29 : Int32) => I_X0_hiddenCells_4 cc ac fc lc f x19 x29 ∧ mu_X0_hiddenCells_4 cc ac fc lc f x19 x29 < mu_X0_hiddenCells_19 cc ac fc lc f x1 x2 x3 x4) (fun (x19 : Int32) (x29 : Int32) (x39 : Int32) (x49 : Int32) => I_X0_hiddenCells_19 cc ac fc lc f x19 x29 x39 x49 ∧ mu_X0_hiddenCells_19 cc ac fc lc f x19 x29 x39 x49 < mu_X0_hiddenCells_19 cc ac fc lc f x1 x2 x3 x4) x1 x2 x3 x4 := by
  rintro x1 x2 x3 x4 ⟨k, j, q, i, hkj, rfl, hqi, rfl, he⟩
  have hm : mu_X0_hiddenCells_4 cc ac fc lc f x1 (nI k + 1) < mu_X0_hiddenCells_19 cc ac fc lc f x1 (nI k) x3 (nI q) := by
    show (10 - (nI k + 1).toNatClampNeg) * 20 + 15 < (10 - (nI k).toNatClampNeg) * 20 + (12 - (nI q).toNatClampNeg)
    rw [nI_1, nI_clamp (by omega), nI_clamp (by omega)]; omega
  refine ⟨fun c => ?_, fun c => ?_⟩
  · have c := k_le (a := 12) (by decide) (by omega) c
    obtain rfl : i = 0 := by omega
    rintro y rfl
    exact ⟨⟨k + 1, j, by omega, nI_1 k, he⟩, hm⟩
  · have c := k_nle (a := 12) (by decide) (by omega) c
    obtain ⟨i, rfl⟩ : ∃ i', i = i' + 1 := ⟨i - 1, by omega⟩
    refine ⟨fun c2 => ?_, fun c2 => ?_⟩
    · rintro y rfl
      simp only [zhiI, if_pos c2] at he
      exact ⟨⟨k + 1, j, by omega, nI_1 k, he⟩, hm⟩
    · rintro y rfl y2 rfl y3 rfl y4 rfl
      rw [cl_12]
      simp only [zhiI, if_neg c2] at he
      refine ⟨⟨k, j, q + 1, i, hkj, rfl, by omega, nI_1 q, he⟩, ?_⟩
      show (10 - (nI k).toNatClampNeg) * 20 + (12 - (nI q + 1).toNatClampNeg) < (10 - (nI k).toNatClampNeg) * 20 + (12 - (nI q).toNatClampNeg)
      rw [nI_1, nI_clamp (n := q + 1) (by omega), nI_clamp (n := q) (by omega)]; omega
theorem pe_X0_hiddenCells (cc : Int32) (ac : Int32) (fc : Int32) (lc : Int32) (f : Nat → Int32) : ve_X0_hiddenCells cc ac fc lc f (fun (r : Int32) (u : Unit) => r = zhi cc ac fc lc f) (I_X0_hiddenCells_4 cc ac fc lc f) (I_X0_hiddenCells_19 cc ac fc lc f) := ⟨1, 9, rfl, rfl, rfl⟩
theorem pe_X0_isShape (cc : Int32) (ac : Int32) (fc : Int32) (lc : Int32) (f : Nat → Int32) (p1 : Int32) (p2 : Int32) : ve_X0_isShape cc ac fc lc f p1 p2 (fun (r : Int32) (u : Unit) => r = b2i (zsh cc ac fc lc f p1 p2)) := by
  refine ⟨fun c => ⟨fun c2 => ⟨fun c3 => ?_, fun c3 => ?_⟩, fun c2 => ?_⟩, fun c => ?_⟩
  · rw [cl_12] at c3
    show (1 : Int32) = b2i _
    unfold zsh; rw [decide_eq_true c, decide_eq_true c2, decide_eq_true c3]; rfl
  · rw [cl_12] at c3
    show (0 : Int32) = b2i _
    unfold zsh; rw [decide_eq_true c, decide_eq_true c2, decide_eq_false c3]; rfl
  · show (0 : Int32) = b2i _
    unfold zsh; rw [decide_eq_true c, decide_eq_false c2]; rfl
  · show (0 : Int32) = b2i _
    unfold zsh; rw [decide_eq_false c]; rfl
def I_X0_empty_2 (cc : Int32) (ac : Int32) (fc : Int32) (lc : Int32) (f : Nat → Int32) : Int32 → (Nat → Int32) → Prop := fun x1 f' => ∃ k : Nat, k ≤ 10 ∧ x1 = nI k ∧ f' = fun i => if i < k then zem f ac i else f i
def mu_X0_empty_2 (cc : Int32) (ac : Int32) (fc : Int32) (lc : Int32) (f : Nat → Int32) : Int32 → (Nat → Int32) → Nat := fun x1 f' => 10 - x1.toNatClampNeg
theorem pl_X0_empty_2 (cc : Int32) (ac : Int32) (fc : Int32) (lc : Int32) (f : Nat → Int32) : ∀ (x1 : Int32) (f' : Nat → Int32), I_X0_empty_2 cc ac fc lc f x1 f' → vs_X0_empty_2 cc ac fc lc f (fun (u : (Nat → Int32)) => u = (zem f ac)) (fun (x19 : Int32) (f9 : Nat → Int32) => I_X0_empty_2 cc ac fc lc f x19 f9 ∧ mu_X0_empty_2 cc ac fc lc f x19 f9 < mu_X0_empty_2 cc ac fc lc f x1 f') x1 f' := by
  rintro x1 f' ⟨k, hk, rfl, hf⟩
  refine ⟨fun c => ?_, fun c => ?_⟩
  · have c := k_le (a := 10) (by decide) (by omega) c
    obtain rfl : k = 10 := by omega
    exact upd_all hf (fun i hi => by simp [zem, hi])
  · have c := k_nle (a := 10) (by decide) (by omega) c
    have e1 : (nI k).toNatClampNeg = k := nI_clamp (by omega)
    have hm : ∀ g, mu_X0_empty_2 cc ac fc lc f (nI k + 1) g < mu_X0_empty_2 cc ac fc lc f (nI k) f' := fun g => by
      show 10 - (nI k + 1).toNatClampNeg < 10 - (nI k).toNatClampNeg
      rw [nI_1, nI_clamp (by omega), nI_clamp (by omega)]; omega
    refine ⟨fun c2 => ⟨vp_in_nI c (by decide), ?_⟩, fun c2 => ⟨vp_in_nI c (by decide), ?_⟩⟩ <;> rintro y rfl <;> refine ⟨⟨k + 1, by omega, nI_1 k, ?_⟩, hm _⟩ <;> rw [e1] <;> refine upd_step hf ?_
    · have : k = 0 := (nI_eq (a := k) (b := 0) (by omega) (by decide)).mp c2
      simp [zem, this]
    · have : ¬ k = 0 := fun q => c2 (by rw [q]; rfl)
      simp [zem, this, c]
theorem pe_X0_empty (cc : Int32) (ac : Int32) (fc : Int32) (lc : Int32) (f : Nat → Int32) : ve_X0_empty cc ac fc lc f (fun (u : (Nat → Int32)) => u = (zem f ac)) (I_X0_empty_2 cc ac fc lc f) := ⟨0, by decide, rfl, by funext i; simp⟩
def I_X0_layOut_24 (cc : Int32) (ac : Int32) (fc : Int32) (lc : Int32) (f : Nat → Int32) (p1 : Int32) (p2 : Int32) : Int32 → Int32 → Int32 → Int32 → Int32 → (Nat → Int32) → Prop := fun x3 cc' ac' fc' lc' f' => cc' = p2 ∧ ac' = zac p1 p2 ∧ f' = f ∧ ∃ k : Nat, k ≤ p1.toNatClampNeg ∧ x3 = nI k ∧ fc' = zfc p2 k
def mu_X0_layOut_24 (cc : Int32) (ac : Int32) (fc : Int32) (lc : Int32) (f : Nat → Int32) (p1 : Int32) (p2 : Int32) : Int32 → Int32 → Int32 → Int32 → Int32 → (Nat → Int32) → Nat := fun x3 cc' ac' fc' lc' f' => p1.toNatClampNeg - x3.toNatClampNeg
theorem pl_X0_layOut_24 (cc : Int32) (ac : Int32) (fc : Int32) (lc : Int32) (f : Nat → Int32) (p1 : Int32) (p2 : Int32) : ∀ (x3 : Int32) (cc' : Int32) (ac' : Int32) (fc' : Int32) (lc' : Int32) (f' : Nat → Int32), I_X0_layOut_24 cc ac fc lc f p1 p2 x3 cc' ac' fc' lc' f' → vs_X0_layOut_24 cc ac fc lc f p1 p2 (fun (u : Int32 × Int32 × Int32 × Int32 × (Nat → Int32)) => u = (p2, zac p1 p2, zfc p2 (p1 : Int32).toNatClampNeg, zlc p2 (zfc p2 (p1 : Int32).toNatClampNeg), zem f (zac p1 p2))) (fun (x39 : Int32) (cc9 : Int32) (ac9 : Int32) (fc9 : Int32) (lc9 : Int32) (f9 : Nat → Int32) => I_X0_layOut_24 cc ac fc lc f p1 p2 x39 cc9 ac9 fc9 lc9 f9 ∧ mu_X0_layOut_24 cc ac fc lc f p1 p2 x39 cc9 ac9 fc9 lc9 f9 < mu_X0_layOut_24 cc ac fc lc f p1 p2 x3 cc' ac' fc' lc' f') x3 cc' ac' fc' lc' f' := by
  rintro x3 cc' ac' fc' lc' f' ⟨rfl, rfl, rfl, k, hk, rfl, rfl⟩
  have hb := cl_lt p1
  refine ⟨fun c => ?_, fun c => ?_⟩
  · rw [cl_le p1 (by omega)] at c
    obtain rfl : k = p1.toNatClampNeg := by omega
    rfl
  · rw [cl_le p1 (by omega)] at c
    rintro y rfl
    refine ⟨⟨rfl, rfl, rfl, k + 1, by omega, nI_1 k, rfl⟩, ?_⟩
    show p1.toNatClampNeg - (nI k + 1).toNatClampNeg < p1.toNatClampNeg - (nI k).toNatClampNeg
    rw [nI_1, nI_clamp (by omega), nI_clamp (by omega)]; omega
theorem pe_X0_layOut (cc : Int32) (ac : Int32) (fc : Int32) (lc : Int32) (f : Nat → Int32) (p1 : Int32) (p2 : Int32) : ve_X0_layOut cc ac fc lc f p1 p2 (fun (u : Int32 × Int32 × Int32 × Int32 × (Nat → Int32)) => u = (p2, zac p1 p2, zfc p2 (p1 : Int32).toNatClampNeg, zlc p2 (zfc p2 (p1 : Int32).toNatClampNeg), zem f (zac p1 p2))) (I_X0_layOut_24 cc ac fc lc f p1 p2) := ⟨rfl, rfl, rfl, 0, Nat.zero_le _, rfl, rfl⟩
def I_X0_copyFrom_34 (cc : Int32) (ac : Int32) (fc : Int32) (lc : Int32) (f : Nat → Int32) (occ : Int32) (oac : Int32) (ofc : Int32) (olc : Int32) (of : Nat → Int32) : Int32 → Int32 → Int32 → Int32 → Int32 → (Nat → Int32) → Prop := fun x2 cc' ac' fc' lc' f' => cc' = occ ∧ ac' = oac ∧ fc' = ofc ∧ lc' = olc ∧ ∃ k : Nat, k ≤ 10 ∧ x2 = nI k ∧ f' = fun i => if i < k then zcp f of i else f i
def mu_X0_copyFrom_34 (cc : Int32) (ac : Int32) (fc : Int32) (lc : Int32) (f : Nat → Int32) (occ : Int32) (oac : Int32) (ofc : Int32) (olc : Int32) (of : Nat → Int32) : Int32 → Int32 → Int32 → Int32 → Int32 → (Nat → Int32) → Nat := fun x2 cc' ac' fc' lc' f' => 10 - x2.toNatClampNeg
theorem pl_X0_copyFrom_34 (cc : Int32) (ac : Int32) (fc : Int32) (lc : Int32) (f : Nat → Int32) (occ : Int32) (oac : Int32) (ofc : Int32) (olc : Int32) (of : Nat → Int32) : ∀ (x2 : Int32) (cc' : Int32) (ac' : Int32) (fc' : Int32) (lc' : Int32) (f' : Nat → Int32), I_X0_copyFrom_34 cc ac fc lc f occ oac ofc olc of x2 cc' ac' fc' lc' f' → vs_X0_copyFrom_34 cc ac fc lc f occ oac ofc olc of (fun (u : Int32 × Int32 × Int32 × Int32 × (Nat → Int32)) => u = (occ, oac, ofc, olc, zcp f of)) (fun (x29 : Int32) (cc9 : Int32) (ac9 : Int32) (fc9 : Int32) (lc9 : Int32) (f9 : Nat → Int32) => I_X0_copyFrom_34 cc ac fc lc f occ oac ofc olc of x29 cc9 ac9 fc9 lc9 f9 ∧ mu_X0_copyFrom_34 cc ac fc lc f occ oac ofc olc of x29 cc9 ac9 fc9 lc9 f9 < mu_X0_copyFrom_34 cc ac fc lc f occ oac ofc olc of x2 cc' ac' fc' lc' f') x2 cc' ac' fc' lc' f' := by
  rintro x2 cc' ac' fc' lc' f' ⟨rfl, rfl, rfl, rfl, k, hk, rfl, hf⟩
  have hend : k = 10 → f' = zcp f of := by
    rintro rfl
    exact upd_all hf (fun i hi => by simp [zcp, hi])
  refine ⟨fun c => ?_, fun c => ?_⟩
  · have c := k_le (a := 10) (by decide) (by omega) c
    show (_, _, _, _, _) = (_, _, _, _, _)
    rw [hend (by omega)]
  · have c := k_nle (a := 10) (by decide) (by omega) c
    refine ⟨fun c2 => ?_, fun c2 => ⟨vp_in_nI c (by decide), vp_in_nI c (by decide), ?_⟩⟩
    · have c2 := k_le (a := 10) (by decide) (by omega) c2
      omega
    · rintro y rfl
      have e1 : (nI k).toNatClampNeg = k := nI_clamp (by omega)
      refine ⟨⟨rfl, rfl, rfl, rfl, k + 1, by omega, nI_1 k, ?_⟩, ?_⟩
      · rw [e1]; exact upd_step hf (by simp [zcp, c])
      · show 10 - (nI k + 1).toNatClampNeg < 10 - (nI k).toNatClampNeg
        rw [nI_1, nI_clamp (by omega), nI_clamp (by omega)]; omega
theorem pe_X0_copyFrom (cc : Int32) (ac : Int32) (fc : Int32) (lc : Int32) (f : Nat → Int32) (occ : Int32) (oac : Int32) (ofc : Int32) (olc : Int32) (of : Nat → Int32) : ve_X0_copyFrom cc ac fc lc f occ oac ofc olc of (fun (u : Int32 × Int32 × Int32 × Int32 × (Nat → Int32)) => u = (occ, oac, ofc, olc, zcp f of)) (I_X0_copyFrom_34 cc ac fc lc f occ oac ofc olc of) := ⟨rfl, rfl, rfl, rfl, 0, by decide, rfl, by funext i; simp⟩
