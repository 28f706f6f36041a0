/-! what the reference's methods answer -/
def mhas (s c : Int32) : Bool := decide ((s >>> (c &&& 31)) &&& 1 = 1)
def mcn (s : Int32) : Nat → Int32 | 0 => 0 | k + 1 => mcn s k + ((s >>> (nI k &&& 31)) &&& 1)
def mall (rw co : Int32) : Int32 := zbit (rw * co) - 1
def mbs (rw co s : Int32) : Int32 := ((((s <<< (co &&& 31)) ||| (s >>> (co &&& 31))) ||| ((s &&& (zlc co (zfc co rw.toNatClampNeg) ^^^ (-1))) <<< ((1 : Int32) &&& 31))) ||| ((s &&& (zfc co rw.toNatClampNeg ^^^ (-1))) >>> ((1 : Int32) &&& 31))) &&& mall rw co
def mgr (rw co w : Int32) : Nat → Int32 → Int32 | 0, x => x | n + 1, x => if x ||| (mbs rw co x &&& w) = x then x else mgr rw co w n (x ||| (mbs rw co x &&& w))
def mN (rw co : Int32) : Nat := (rw * co).toNatClampNeg
def mhv (bd : Nat → Int32) (j : Nat) : Nat → Int32 | 0 => 0 | k + 1 => if bd k = nI j then mhv bd j k ||| zbit (nI k) else mhv bd j k
def mlk (rw co : Int32) (bd hf : Nat → Int32) : Nat → Int32 := fun j => if j < 10 then mhv bd j (mN rw co) else hf j
def mfo (rw co : Int32) (bd hf : Nat → Int32) (c : Int32) : Int32 := mgr rw co (hf (bd c.toNatClampNeg).toNatClampNeg) 33 (zbit c)
def mro (rw co : Int32) (bd hf : Nat → Int32) (c : Int32) : Int32 := mcn (mgr rw co (hf (bd c.toNatClampNeg).toNatClampNeg ||| hf 0) 33 (zbit c)) 12
def mcond (rw co : Int32) (bd hf : Nat → Int32) (c : Int32) : Bool := decide (bd c.toNatClampNeg = 0) || (decide (mcn (mfo rw co bd hf c) 12 ≤ bd c.toNatClampNeg) && decide (bd c.toNatClampNeg ≤ mro rw co bd hf c))
def msF (rw co : Int32) (bd hf : Nat → Int32) (N : Nat) : Nat → Bool | 0 => true | j + 1 => mcond rw co bd hf (nI (N - (j + 1))) && msF rw co bd hf N j
def mso (rw co : Int32) (bd hf : Nat → Int32) : Bool := msF rw co bd (mlk rw co bd hf) (mN rw co) (mN rw co)
def mft (rw co : Int32) (bd hf : Nat → Int32) (c n : Int32) : Bool := decide (bd c.toNatClampNeg = 0) && mso rw co (upd bd c.toNatClampNeg n) hf
def mfth (rw co : Int32) (bd hf : Nat → Int32) (c : Int32) : Nat → Int32 := if bd c.toNatClampNeg = 0 then mlk rw co bd hf else hf
def mem (bd lf : Nat → Int32) : Nat → Nat → Int32 | 0 => bd | k + 1 => upd (mem bd lf k) (lf k).toNatClampNeg 0
def min3 (n a b : Int32) : Bool := decide (a ≤ n) && decide (n ≤ b)
def mic (rw co c : Int32) : Bool := min3 c 0 (rw * co - 1)
def mlyc (r c : Int32) : Bool := (min3 r 2 4 && min3 c 2 4) && decide (r * c ≤ 12)
def mz12 (g : Nat → Int32) : Nat → Int32 := fun k => if k < 12 then 0 else g k
def mrs (rw co : Int32) (bd : Nat → Int32) (cl c n : Int32) : Nat → Int32 := fun k => if k < mN rw co then (if nI k = c then n else if mhas cl (nI k) then bd k else 0) else bd k
def mkp (rw co : Int32) (bd kf : Nat → Int32) : Nat → Int32 := fun k => if k < mN rw co then bd k else kf k
def mas (rw co : Int32) (bd hf : Nat → Int32) (cl c n : Int32) : Bool := mso rw co (mrs rw co bd cl c n) hf
def mclt (rw co : Int32) (bd hf : Nat → Int32) (cl c n : Int32) : Int32 := if mic rw co c then (if min3 n 0 9 then (if mas rw co bd hf cl c n then 0 else 3) else 2) else 1
def mcla (rw co c n : Int32) : Bool := mic rw co c && min3 n 0 9
def mclc (cl c n : Int32) : Int32 := if 0 < n then cl ||| zbit c else cl &&& (zbit c ^^^ (-1))
def mdr (st : Int64) : Int64 := (st * 1103515245 + 12345) - (st * 1103515245 + 12345) / 2147483648 * 2147483648
def mdi (x : Int64) : Int32 := (x / 65536).toInt32
def mflt (rw co : Int32) (bd hf : Nat → Int32) (c n : Int32) : Int32 := if mic rw co c then (if min3 n 1 9 then (if mft rw co bd hf c n then 0 else 3) else 2) else 1
def mfla (rw co c n : Int32) : Bool := mic rw co c && min3 n 1 9
def mish (rw co : Int32) (bd hf : Nat → Int32) (s c : Int32) : Bool := (decide (mcn s 12 = bd c.toNatClampNeg) && decide (s &&& ((hf (bd c.toNatClampNeg).toNatClampNeg ||| hf 0) ^^^ (-1)) = 0)) && ((decide (s &&& mfo rw co bd hf c = mfo rw co bd hf c) && decide (mgr rw co s 33 (zbit c) = s)) && decide ((mbs rw co s &&& (s ^^^ (-1))) &&& hf (bd c.toNatClampNeg).toNatClampNeg = 0))
def msc (rw co : Int32) (bd hf : Nat → Int32) (c w : Int32) : Nat → Int32 | 0 => 0 | k + 1 => msc rw co bd hf c w k + b2i (decide (nI (k + 1) &&& w = w) && mish rw co bd hf (nI (k + 1)) c)
def msO (rw co : Int32) (bd hf : Nat → Int32) (c w : Int32) : Int32 := msc rw co bd hf c w ((zbit (rw * co)).toNatClampNeg - 1)
/-- found and n behind the numbers 1 .. k -/
def mon (rw co : Int32) (bd hf : Nat → Int32) (c : Int32) : Nat → Int32 × Int32 | 0 => (0, 0) | k + 1 => if mft rw co bd hf c (nI (k + 1)) then (nI (k + 1), (mon rw co bd hf c k).2 + 1) else mon rw co bd hf c k
def monr (rw co : Int32) (bd hf : Nat → Int32) (c : Int32) : Int32 := if (mon rw co bd hf c 9).2 = 1 then (mon rw co bd hf c 9).1 else 0
def mshc (rw co : Int32) (bd hf : Nat → Int32) (c : Int32) (k : Nat) : Bool := ((decide (0 < bd k) && decide (mcn (mfo rw co bd hf (nI k)) 12 < bd k)) && decide (mfo rw co bd hf (nI k) &&& (zbit (nI k) - 1) = 0)) && mft rw co bd hf c (bd k)
/-- found, with the fields of the cells N-1 .. N-j looked at -/
def mshn (rw co : Int32) (bd hf : Nat → Int32) (c : Int32) (N : Nat) : Nat → Int32 | 0 => 0 | j + 1 => if mshc rw co bd hf c (N - (j + 1)) then (if 0 < msO rw co bd hf (nI (N - (j + 1))) 0 ∧ msO rw co bd hf (nI (N - (j + 1))) (zbit c) = msO rw co bd hf (nI (N - (j + 1))) 0 then bd (N - (j + 1)) else mshn rw co bd hf c N j) else mshn rw co bd hf c N j
def mrc (rw co g : Int32) : Nat → Int32 → Int32 | 0, x => x | n + 1, x => mrc rw co g n (x ||| (mbs rw co x &&& g))
def mrch (rw co : Int32) (bd hf : Nat → Int32) (a c : Int32) : Bool := mhas (mrc rw co (hf 0) ((bd a.toNatClampNeg).toInt - (mcn (mfo rw co bd hf a) 12).toInt).toNat (mfo rw co bd hf a)) c
def mhdF (rw co : Int32) (bd hf : Nat → Int32) (c : Int32) (N : Nat) : Nat → Bool | 0 => true | j + 1 => (decide (bd (N - (j + 1)) = 0) || !mrch rw co bd hf (nI (N - (j + 1))) c) && mhdF rw co bd hf c N j
def mhd (rw co : Int32) (bd hf : Nat → Int32) (c : Int32) : Bool := decide (bd c.toNatClampNeg = 0) && mhdF rw co bd hf c (mN rw co) (mN rw co)
def mhn (rw co : Int32) (bd hf : Nat → Int32) (c : Int32) : Bool := (mhd rw co bd hf c && decide (mbs rw co (zbit c) &&& hf 0 = 0)) && mft rw co bd hf c 1
def mrun1 (rw co : Int32) (bd hf : Nat → Int32) (rule : Int32) (c : Int32) : Int32 := if rule = 0 then monr rw co bd hf c else if rule = 1 then mshn rw co bd hf c (mN rw co) (mN rw co) else if mhn rw co bd hf c then 1 else 0
/-- the first cell from N-j on with a number, as 10 times the cell and the number; -1 -/
def mrunF (rw co : Int32) (bd hf : Nat → Int32) (rule : Int32) (N : Nat) : Nat → Option (Nat × Int32) | 0 => none | j + 1 => if bd (N - (j + 1)) = 0 ∧ 0 < mrun1 rw co bd hf rule (nI (N - (j + 1))) then some (N - (j + 1), mrun1 rw co bd hf rule (nI (N - (j + 1)))) else mrunF rw co bd hf rule N j
def mrunO (rw co : Int32) (bd hf : Nat → Int32) (rule : Int32) : Option (Nat × Int32) := if min3 rule 0 2 then mrunF rw co bd (mlk rw co bd hf) rule (mN rw co) (mN rw co) else none
def mrunR (o : Option (Nat × Int32)) (ok : Bool) : Int32 := if ok then (match o with | none => -1 | some q => 10 * nI q.1 + q.2) else 0
def mrunB (o : Option (Nat × Int32)) (bd : Nat → Int32) : Nat → Int32 := match o with | none => bd | some q => upd bd q.1 q.2
def mrunL (o : Option (Nat × Int32)) (lf : Nat → Int32) (fi : Int32) : Nat → Int32 := match o with | none => lf | some q => upd lf fi.toNatClampNeg (nI q.1)
def mrunI (o : Option (Nat × Int32)) (fi : Int32) : Int32 := match o with | none => fi | some _ => fi + 1
def mslv (rw co : Int32) (bd hf : Nat → Int32) (N : Nat) : Nat → Bool | 0 => true | j + 1 => (decide (0 < bd (N - (j + 1))) && decide (mcn (mfo rw co bd hf (nI (N - (j + 1)))) 12 = bd (N - (j + 1)))) && mslv rw co bd hf N j
/-- what the arrays hold: no index out of range comes of it -/
def mok (rw co : Int32) (bd : Nat → Int32) : Prop := (∃ N : Nat, N ≤ 12 ∧ rw * co = nI N) ∧ ∀ k, k < 12 → vp_in (bd k) 10
def mlok (lf : Nat → Int32) (fi : Int32) : Prop := ∃ n : Nat, n ≤ 12 ∧ fi = nI n ∧ ∀ k, k < n → vp_in (lf k) 12
def mcur (rw co : Int32) (bd hf : Nat → Int32) : Prop := mlk rw co bd hf = hf
def mfok (rw co : Int32) (bd : Nat → Int32) (fi : Int32) : Prop := ∀ k : Nat, k < mN rw co → bd k = 0 → vp_in fi 12
def mcw (bd : Nat → Int32) (c : Int32) : Prop := vp_in c 12 ∧ vp_in (bd c.toNatClampNeg) 10
def ve_X5_thrown (rw : Int32) (co : Int32) (cl : Int32) (fi : Int32) (st : Int64) (th : Int32) (bd : Nat → Int32) (lf : Nat → Int32) (hf : Nat → Int32) (of : Nat → Int32) (gf : Nat → Int32) (tf : Nat → Int32) (kf : Nat → Int32) (P : Int32 → Unit → Prop)  : Prop := P th ()
def ve_X5_can (rw : Int32) (co : Int32) (cl : Int32) (fi : Int32) (st : Int64) (th : Int32) (bd : Nat → Int32) (lf : Nat → Int32) (hf : Nat → Int32) (of : Nat → Int32) (gf : Nat → Int32) (tf : Nat → Int32) (kf : Nat → Int32) (p1 : Int32) (P : Int32 → Int32 → Prop)  : Prop := (p1 = 0 → P 1 (p1)) ∧ (¬ p1 = 0 → P 0 (p1))
def ve_X5_isIn (p0 : Int32) (p1 : Int32) (p2 : Int32) (P : Int32 → Unit → Prop)  : Prop := (p0 < p1 → P 0 ()) ∧ (¬ p0 < p1 → (p2 < p0 → P 0 ()) ∧ (¬ p2 < p0 → P 1 ()))
def ve_X5_cells (rw : Int32) (co : Int32) (cl : Int32) (fi : Int32) (st : Int64) (th : Int32) (bd : Nat → Int32) (lf : Nat → Int32) (hf : Nat → Int32) (of : Nat → Int32) (gf : Nat → Int32) (tf : Nat → Int32) (kf : Nat → Int32) (P : Int32 → Unit → Prop)  : Prop := P (rw * co) ()
def ve_X5_isCell (rw : Int32) (co : Int32) (cl : Int32) (fi : Int32) (st : Int64) (th : Int32) (bd : Nat → Int32) (lf : Nat → Int32) (hf : Nat → Int32) (of : Nat → Int32) (gf : Nat → Int32) (tf : Nat → Int32) (kf : Nat → Int32) (p1 : Int32) (P : Int32 → Unit → Prop)  : Prop := P (b2i (min3 p1 0 ((rw * co) - 1))) ()
def ve_X5_has (p0 : Int32) (p1 : Int32) (P : Int32 → Unit → Prop)  : Prop := (((p0 >>> (p1 &&& 31)) &&& 1) = 1 → P 1 ()) ∧ (¬ ((p0 >>> (p1 &&& 31)) &&& 1) = 1 → P 0 ())
def vs_X5_count_4 (p0 : Int32) (P : Int32 → Unit → Prop) (J4 : Int32 → Int32 → Prop) (x1 : Int32) (x2 : Int32) : Prop := (12 ≤ x2 → P x1 ()) ∧ (¬ 12 ≤ x2 → ∀ y_2 : Int32, y_2 = x1 + ((p0 >>> (x2 &&& 31)) &&& 1) → ∀ y_3 : Int32, y_3 = x2 + 1 → (J4 y_2 y_3))
def ve_X5_count (p0 : Int32) (P : Int32 → Unit → Prop) (J4 : Int32 → Int32 → Prop) : Prop := (J4 0 0)
def vs_X5_beside_4 (rw : Int32) (co : Int32) (cl : Int32) (fi : Int32) (st : Int64) (th : Int32) (bd : Nat → Int32) (lf : Nat → Int32) (hf : Nat → Int32) (of : Nat → Int32) (gf : Nat → Int32) (tf : Nat → Int32) (kf : Nat → Int32) (p1 : Int32) (P : Int32 → Unit → Prop) (J4 : Int32 → Int32 → Prop) (x2 : Int32) (x3 : Int32) : Prop := (rw ≤ x3 → ∀ y_2 : Int32, y_2 = x2 <<< ((co - 1) &&& 31) → ∀ y_3 : Int32, y_3 = (((p1 <<< (co &&& 31)) ||| (p1 >>> (co &&& 31))) ||| ((p1 &&& (y_2 ^^^ (-1))) <<< (1 &&& 31))) ||| ((p1 &&& (x2 ^^^ (-1))) >>> (1 &&& 31)) → P (y_3 &&& ((1 <<< ((rw * co) &&& 31)) - 1)) ()) ∧ (¬ rw ≤ x3 → ∀ y_4 : Int32, y_4 = x2 ||| (1 <<< ((x3 * co) &&& 31)) → ∀ y_5 : Int32, y_5 = x3 + 1 → (J4 y_4 y_5))
def ve_X5_beside (rw : Int32) (co : Int32) (cl : Int32) (fi : Int32) (st : Int64) (th : Int32) (bd : Nat → Int32) (lf : Nat → Int32) (hf : Nat → Int32) (of : Nat → Int32) (gf : Nat → Int32) (tf : Nat → Int32) (kf : Nat → Int32) (p1 : Int32) (P : Int32 → Unit → Prop) (J4 : Int32 → Int32 → Prop) : Prop := (J4 0 0)
def vs_X5_grown_5 (rw : Int32) (co : Int32) (cl : Int32) (fi : Int32) (st : Int64) (th : Int32) (bd : Nat → Int32) (lf : Nat → Int32) (hf : Nat → Int32) (of : Nat → Int32) (gf : Nat → Int32) (tf : Nat → Int32) (kf : Nat → Int32) (p1 : Int32) (p2 : Int32) (P : Int32 → Unit → Prop) (J5 : Int32 → Int32 → Prop) (x3 : Int32) (x4 : Int32) : Prop := (x3 = x4 → P x3 ()) ∧ (¬ x3 = x4 → ∀ y_2 : Int32, y_2 = x3 ||| ((mbs rw co x3) &&& p2) → (J5 y_2 x3))
def ve_X5_grown (rw : Int32) (co : Int32) (cl : Int32) (fi : Int32) (st : Int64) (th : Int32) (bd : Nat → Int32) (lf : Nat → Int32) (hf : Nat → Int32) (of : Nat → Int32) (gf : Nat → Int32) (tf : Nat → Int32) (kf : Nat → Int32) (p1 : Int32) (p2 : Int32) (P : Int32 → Unit → Prop) (J5 : Int32 → Int32 → Prop) : Prop := (J5 p1 0)
def vs_X5_looks_2 (rw : Int32) (co : Int32) (cl : Int32) (fi : Int32) (st : Int64) (th : Int32) (bd : Nat → Int32) (lf : Nat → Int32) (hf : Nat → Int32) (of : Nat → Int32) (gf : Nat → Int32) (tf : Nat → Int32) (kf : Nat → Int32) (P : ((Nat → Int32)) → Prop) (J2 : Int32 → (Nat → Int32) → Prop) (J23 : Int32 → (Nat → Int32) → Prop) (x1 : Int32) (hf' : Nat → Int32) : Prop := (9 < x1 → (J23 0 hf')) ∧ (¬ 9 < x1 → vp_in x1 10 ∧ ∀ y_8 : Int32, y_8 = x1 + 1 → (J2 y_8 (upd hf' x1.toNatClampNeg 0)))
def vs_X5_looks_23 (rw : Int32) (co : Int32) (cl : Int32) (fi : Int32) (st : Int64) (th : Int32) (bd : Nat → Int32) (lf : Nat → Int32) (hf : Nat → Int32) (of : Nat → Int32) (gf : Nat → Int32) (tf : Nat → Int32) (kf : Nat → Int32) (P : ((Nat → Int32)) → Prop) (J2 : Int32 → (Nat → Int32) → Prop) (J23 : Int32 → (Nat → Int32) → Prop) (x1 : Int32) (hf' : Nat → Int32) : Prop := ((rw * co) ≤ x1 → P (hf')) ∧ (¬ (rw * co) ≤ x1 → vp_in x1 12 ∧ vp_in (bd x1.toNatClampNeg) 10 ∧ vp_in (bd x1.toNatClampNeg) 10 ∧ ∀ y_5 : Int32, y_5 = x1 + 1 → (J23 y_5 (upd hf' (bd x1.toNatClampNeg : Int32).toNatClampNeg ((hf' (bd x1.toNatClampNeg : Int32).toNatClampNeg) ||| (1 <<< (x1 &&& 31))))))
def ve_X5_looks (rw : Int32) (co : Int32) (cl : Int32) (fi : Int32) (st : Int64) (th : Int32) (bd : Nat → Int32) (lf : Nat → Int32) (hf : Nat → Int32) (of : Nat → Int32) (gf : Nat → Int32) (tf : Nat → Int32) (kf : Nat → Int32) (P : ((Nat → Int32)) → Prop) (J2 : Int32 → (Nat → Int32) → Prop) (J23 : Int32 → (Nat → Int32) → Prop) : Prop := (J2 0 hf)
def ve_X5_fieldOf (rw : Int32) (co : Int32) (cl : Int32) (fi : Int32) (st : Int64) (th : Int32) (bd : Nat → Int32) (lf : Nat → Int32) (hf : Nat → Int32) (of : Nat → Int32) (gf : Nat → Int32) (tf : Nat → Int32) (kf : Nat → Int32) (p1 : Int32) (P : Int32 → Unit → Prop)  : Prop := vp_in p1 12 ∧ vp_in (bd p1.toNatClampNeg) 10 ∧ P (mgr rw co (hf (bd p1.toNatClampNeg : Int32).toNatClampNeg) 33 (1 <<< (p1 &&& 31))) ()
def ve_X5_roomOf (rw : Int32) (co : Int32) (cl : Int32) (fi : Int32) (st : Int64) (th : Int32) (bd : Nat → Int32) (lf : Nat → Int32) (hf : Nat → Int32) (of : Nat → Int32) (gf : Nat → Int32) (tf : Nat → Int32) (kf : Nat → Int32) (p1 : Int32) (P : Int32 → Unit → Prop)  : Prop := vp_in p1 12 ∧ vp_in (bd p1.toNatClampNeg) 10 ∧ P (mcn (mgr rw co ((hf (bd p1.toNatClampNeg : Int32).toNatClampNeg) ||| (hf (0 : Int32).toNatClampNeg)) 33 (1 <<< (p1 &&& 31))) 12) ()
def vs_X5_isSound_8 (rw : Int32) (co : Int32) (cl : Int32) (fi : Int32) (st : Int64) (th : Int32) (bd : Nat → Int32) (lf : Nat → Int32) (hf : Nat → Int32) (of : Nat → Int32) (gf : Nat → Int32) (tf : Nat → Int32) (kf : Nat → Int32) (P : Int32 → ((Nat → Int32)) → Prop) (J8 : Int32 → Int32 → (Nat → Int32) → Prop) (x1 : Int32) (x2 : Int32) (hf' : Nat → Int32) : Prop := ((rw * co) ≤ x2 → (narrow .boolean (.int x1) = .int x1 ∧ P x1 (hf'))) ∧ (¬ (rw * co) ≤ x2 → (x1 = 0 → (narrow .boolean (.int x1) = .int x1 ∧ P x1 (hf'))) ∧ (¬ x1 = 0 → vp_in x2 12 ∧ ((bd x2.toNatClampNeg) = 0 → ∀ y_5 : Int32, y_5 = x2 + 1 → (J8 1 y_5 hf')) ∧ (¬ (bd x2.toNatClampNeg) = 0 → (mcw bd x2) ∧ vp_in x2 12 ∧ ((bd x2.toNatClampNeg) < (mcn (mfo rw co bd hf' x2) 12) → ∀ y_9 : Int32, y_9 = x2 + 1 → (J8 0 y_9 hf')) ∧ (¬ (bd x2.toNatClampNeg) < (mcn (mfo rw co bd hf' x2) 12) → (mcw bd x2) ∧ vp_in x2 12 ∧ ((mro rw co bd hf' x2) < (bd x2.toNatClampNeg) → ∀ y_13 : Int32, y_13 = x2 + 1 → (J8 0 y_13 hf')) ∧ (¬ (mro rw co bd hf' x2) < (bd x2.toNatClampNeg) → ∀ y_14 : Int32, y_14 = x2 + 1 → (J8 1 y_14 hf'))))))
def ve_X5_isSound (rw : Int32) (co : Int32) (cl : Int32) (fi : Int32) (st : Int64) (th : Int32) (bd : Nat → Int32) (lf : Nat → Int32) (hf : Nat → Int32) (of : Nat → Int32) (gf : Nat → Int32) (tf : Nat → Int32) (kf : Nat → Int32) (P : Int32 → ((Nat → Int32)) → Prop) (J8 : Int32 → Int32 → (Nat → Int32) → Prop) : Prop := (mok rw co bd) ∧ (J8 1 0 (mlk rw co bd hf))
def ve_X5_fits (rw : Int32) (co : Int32) (cl : Int32) (fi : Int32) (st : Int64) (th : Int32) (bd : Nat → Int32) (lf : Nat → Int32) (hf : Nat → Int32) (of : Nat → Int32) (gf : Nat → Int32) (tf : Nat → Int32) (kf : Nat → Int32) (p1 : Int32) (p2 : Int32) (P : Int32 → ((Nat → Int32) × (Nat → Int32)) → Prop)  : Prop := vp_in p1 12 ∧ ((bd p1.toNatClampNeg) = 0 → vp_in p1 12 ∧ (mok rw co (upd bd p1.toNatClampNeg p2)) ∧ ∀ y_5 : Int32, y_5 = b2i (mso rw co (upd bd p1.toNatClampNeg p2) hf) → vp_in p1 12 ∧ (mok rw co (upd (upd bd p1.toNatClampNeg p2) p1.toNatClampNeg 0)) ∧ (narrow .boolean (.int y_5) = .int y_5 ∧ P y_5 (upd (upd bd p1.toNatClampNeg p2) p1.toNatClampNeg 0, mlk rw co (upd (upd bd p1.toNatClampNeg p2) p1.toNatClampNeg 0) (mlk rw co (upd bd p1.toNatClampNeg p2) hf)))) ∧ (¬ (bd p1.toNatClampNeg) = 0 → P 0 (bd, hf))
def vs_X5_empties_2 (rw : Int32) (co : Int32) (cl : Int32) (fi : Int32) (st : Int64) (th : Int32) (bd : Nat → Int32) (lf : Nat → Int32) (hf : Nat → Int32) (of : Nat → Int32) (gf : Nat → Int32) (tf : Nat → Int32) (kf : Nat → Int32) (P : ((Nat → Int32) × Int32) → Prop) (J2 : Int32 → (Nat → Int32) → Int32 → Prop) (x1 : Int32) (bd' : Nat → Int32) (fi' : Int32) : Prop := (fi' ≤ x1 → P (bd', 0)) ∧ (¬ fi' ≤ x1 → vp_in x1 12 ∧ vp_in (lf x1.toNatClampNeg) 12 ∧ ∀ y_4 : Int32, y_4 = x1 + 1 → (J2 y_4 (upd bd' (lf x1.toNatClampNeg : Int32).toNatClampNeg 0) fi'))
def ve_X5_empties (rw : Int32) (co : Int32) (cl : Int32) (fi : Int32) (st : Int64) (th : Int32) (bd : Nat → Int32) (lf : Nat → Int32) (hf : Nat → Int32) (of : Nat → Int32) (gf : Nat → Int32) (tf : Nat → Int32) (kf : Nat → Int32) (P : ((Nat → Int32) × Int32) → Prop) (J2 : Int32 → (Nat → Int32) → Int32 → Prop) : Prop := (J2 0 bd fi)
def vs_X5_lay_52 (rw : Int32) (co : Int32) (cl : Int32) (fi : Int32) (st : Int64) (th : Int32) (bd : Nat → Int32) (lf : Nat → Int32) (hf : Nat → Int32) (of : Nat → Int32) (gf : Nat → Int32) (tf : Nat → Int32) (kf : Nat → Int32) (p1 : Int32) (p2 : Int32) (P : Int32 → (Int32 × Int32 × Int32 × (Nat → Int32) × Int32 × Int32) → Prop) (J52 : Int32 → Int32 → Int32 → Int32 → (Nat → Int32) → Int32 → Int32 → Prop) (x3 : Int32) (th' : Int32) (rw' : Int32) (co' : Int32) (bd' : Nat → Int32) (cl' : Int32) (fi' : Int32) : Prop := (12 ≤ x3 → P (rw' * co') (th', rw', co', bd', 0, 0)) ∧ (¬ 12 ≤ x3 → vp_in x3 12 ∧ ∀ y_3 : Int32, y_3 = x3 + 1 → (J52 y_3 th' rw' co' (upd bd' x3.toNatClampNeg 0) cl' fi'))
def ve_X5_lay (rw : Int32) (co : Int32) (cl : Int32) (fi : Int32) (st : Int64) (th : Int32) (bd : Nat → Int32) (lf : Nat → Int32) (hf : Nat → Int32) (of : Nat → Int32) (gf : Nat → Int32) (tf : Nat → Int32) (kf : Nat → Int32) (p1 : Int32) (p2 : Int32) (P : Int32 → (Int32 × Int32 × Int32 × (Nat → Int32) × Int32 × Int32) → Prop) (J52 : Int32 → Int32 → Int32 → Int32 → (Nat → Int32) → Int32 → Int32 → Prop) : Prop := ((b2i (min3 p1 2 4)) = 0 → P 0 (1, rw, co, bd, cl, fi)) ∧ (¬ (b2i (min3 p1 2 4)) = 0 → ((b2i (min3 p2 2 4)) = 0 → P 0 (1, rw, co, bd, cl, fi)) ∧ (¬ (b2i (min3 p2 2 4)) = 0 → (12 < (p1 * p2) → P 0 (1, rw, co, bd, cl, fi)) ∧ (¬ 12 < (p1 * p2) → (J52 0 0 p1 p2 bd cl fi))))
def vs_X5_areSound_2 (rw : Int32) (co : Int32) (cl : Int32) (fi : Int32) (st : Int64) (th : Int32) (bd : Nat → Int32) (lf : Nat → Int32) (hf : Nat → Int32) (of : Nat → Int32) (gf : Nat → Int32) (tf : Nat → Int32) (kf : Nat → Int32) (p1 : Int32) (p2 : Int32) (P : Int32 → ((Nat → Int32) × (Nat → Int32) × (Nat → Int32)) → Prop) (J2 : Int32 → (Nat → Int32) → (Nat → Int32) → (Nat → Int32) → Prop) (J72 : Int32 → Int32 → (Nat → Int32) → (Nat → Int32) → (Nat → Int32) → Prop) (x3 : Int32) (bd' : Nat → Int32) (kf' : Nat → Int32) (hf' : Nat → Int32) : Prop := ((rw * co) ≤ x3 → (mok rw co bd') ∧ ∀ y_7 : Int32, y_7 = b2i (mso rw co bd' hf') → (J72 y_7 0 bd' kf' (mlk rw co bd' hf'))) ∧ (¬ (rw * co) ≤ x3 → vp_in x3 12 ∧ vp_in x3 12 ∧ (x3 = p1 → vp_in x3 12 ∧ ∀ y_18 : Int32, y_18 = x3 + 1 → (J2 y_18 (upd bd' x3.toNatClampNeg p2) (upd kf' x3.toNatClampNeg (bd' x3.toNatClampNeg)) hf')) ∧ (¬ x3 = p1 → ((b2i (mhas cl x3)) = 0 → vp_in x3 12 ∧ ∀ y_13 : Int32, y_13 = x3 + 1 → (J2 y_13 (upd bd' x3.toNatClampNeg 0) (upd kf' x3.toNatClampNeg (bd' x3.toNatClampNeg)) hf')) ∧ (¬ (b2i (mhas cl x3)) = 0 → vp_in x3 12 ∧ vp_in x3 12 ∧ ∀ y_16 : Int32, y_16 = x3 + 1 → (J2 y_16 (upd bd' x3.toNatClampNeg (bd' x3.toNatClampNeg)) (upd kf' x3.toNatClampNeg (bd' x3.toNatClampNeg)) hf'))))
def vs_X5_areSound_72 (rw : Int32) (co : Int32) (cl : Int32) (fi : Int32) (st : Int64) (th : Int32) (bd : Nat → Int32) (lf : Nat → Int32) (hf : Nat → Int32) (of : Nat → Int32) (gf : Nat → Int32) (tf : Nat → Int32) (kf : Nat → Int32) (p1 : Int32) (p2 : Int32) (P : Int32 → ((Nat → Int32) × (Nat → Int32) × (Nat → Int32)) → Prop) (J2 : Int32 → (Nat → Int32) → (Nat → Int32) → (Nat → Int32) → Prop) (J72 : Int32 → Int32 → (Nat → Int32) → (Nat → Int32) → (Nat → Int32) → Prop) (x3 : Int32) (x4 : Int32) (bd' : Nat → Int32) (kf' : Nat → Int32) (hf' : Nat → Int32) : Prop := ((rw * co) ≤ x4 → (narrow .boolean (.int x3) = .int x3 ∧ P x3 (bd', kf', hf'))) ∧ (¬ (rw * co) ≤ x4 → vp_in x4 12 ∧ vp_in x4 12 ∧ ∀ y_4 : Int32, y_4 = x4 + 1 → (J72 x3 y_4 (upd bd' x4.toNatClampNeg (kf' x4.toNatClampNeg)) kf' hf'))
def ve_X5_areSound (rw : Int32) (co : Int32) (cl : Int32) (fi : Int32) (st : Int64) (th : Int32) (bd : Nat → Int32) (lf : Nat → Int32) (hf : Nat → Int32) (of : Nat → Int32) (gf : Nat → Int32) (tf : Nat → Int32) (kf : Nat → Int32) (p1 : Int32) (p2 : Int32) (P : Int32 → ((Nat → Int32) × (Nat → Int32) × (Nat → Int32)) → Prop) (J2 : Int32 → (Nat → Int32) → (Nat → Int32) → (Nat → Int32) → Prop) (J72 : Int32 → Int32 → (Nat → Int32) → (Nat → Int32) → (Nat → Int32) → Prop) : Prop := (J2 0 bd kf hf)
def ve_X5_clue (rw : Int32) (co : Int32) (cl : Int32) (fi : Int32) (st : Int64) (th : Int32) (bd : Nat → Int32) (lf : Nat → Int32) (hf : Nat → Int32) (of : Nat → Int32) (gf : Nat → Int32) (tf : Nat → Int32) (kf : Nat → Int32) (p1 : Int32) (p2 : Int32) (P : Int32 → (Int32 × (Nat → Int32) × Int32 × Int32 × (Nat → Int32) × (Nat → Int32)) → Prop)  : Prop := ∀ y_1 : Int32, y_1 = b2i (min3 p2 0 9) → ((b2i (mic rw co p1)) = 0 → P 0 (1, bd, cl, fi, kf, hf)) ∧ (¬ (b2i (mic rw co p1)) = 0 → (y_1 = 0 → P 0 (2, bd, cl, fi, kf, hf)) ∧ (¬ y_1 = 0 → (mok rw co bd ∧ vp_in p2 10) ∧ ((b2i (mas rw co bd hf cl p1 p2)) = 0 → P 0 (3, bd, cl, fi, mkp rw co bd kf, mlk rw co (mrs rw co bd cl p1 p2) hf)) ∧ (¬ (b2i (mas rw co bd hf cl p1 p2)) = 0 → (mlok lf fi) ∧ ((b2i (mhas cl p1)) = 0 → vp_in p1 12 ∧ (p2 ≤ 0 → P 0 (0, upd (mem bd lf fi.toNatClampNeg) p1.toNatClampNeg p2, cl &&& ((1 <<< (p1 &&& 31)) ^^^ (-1)), 0, mkp rw co bd kf, mlk rw co (mrs rw co bd cl p1 p2) hf)) ∧ (¬ p2 ≤ 0 → P 0 (0, upd (mem bd lf fi.toNatClampNeg) p1.toNatClampNeg p2, cl ||| (1 <<< (p1 &&& 31)), 0, mkp rw co bd kf, mlk rw co (mrs rw co bd cl p1 p2) hf))) ∧ (¬ (b2i (mhas cl p1)) = 0 → vp_in p1 12 ∧ ∀ y_13 : Int32, y_13 = (mem bd lf fi.toNatClampNeg) p1.toNatClampNeg → vp_in p1 12 ∧ (p2 ≤ 0 → P y_13 (0, upd (mem bd lf fi.toNatClampNeg) p1.toNatClampNeg p2, cl &&& ((1 <<< (p1 &&& 31)) ^^^ (-1)), 0, mkp rw co bd kf, mlk rw co (mrs rw co bd cl p1 p2) hf)) ∧ (¬ p2 ≤ 0 → P y_13 (0, upd (mem bd lf fi.toNatClampNeg) p1.toNatClampNeg p2, cl ||| (1 <<< (p1 &&& 31)), 0, mkp rw co bd kf, mlk rw co (mrs rw co bd cl p1 p2) hf))))))
def ve_X5_back (rw : Int32) (co : Int32) (cl : Int32) (fi : Int32) (st : Int64) (th : Int32) (bd : Nat → Int32) (lf : Nat → Int32) (hf : Nat → Int32) (of : Nat → Int32) (gf : Nat → Int32) (tf : Nat → Int32) (kf : Nat → Int32) (p1 : Int32) (P : Int32 → ((Nat → Int32)) → Prop)  : Prop := (p1 ≤ 0 → P (p1 - 1) (bd)) ∧ (¬ p1 ≤ 0 → vp_in (p1 - 1) 12 ∧ vp_in (of (p1 - 1 : Int32).toNatClampNeg) 12 ∧ P (p1 - 1) (upd bd (of (p1 - 1 : Int32).toNatClampNeg : Int32).toNatClampNeg 0))
def vs_X5_clears_2 (rw : Int32) (co : Int32) (cl : Int32) (fi : Int32) (st : Int64) (th : Int32) (bd : Nat → Int32) (lf : Nat → Int32) (hf : Nat → Int32) (of : Nat → Int32) (gf : Nat → Int32) (tf : Nat → Int32) (kf : Nat → Int32) (p1 : Int32) (P : Int32 → ((Nat → Int32)) → Prop) (J2 : Int32 → (Nat → Int32) → Prop) (x2 : Int32) (bd' : Nat → Int32) : Prop := (p1 ≤ x2 → P (-1) (bd')) ∧ (¬ p1 ≤ x2 → vp_in x2 12 ∧ vp_in (of x2.toNatClampNeg) 12 ∧ ∀ y_4 : Int32, y_4 = x2 + 1 → (J2 y_4 (upd bd' (of x2.toNatClampNeg : Int32).toNatClampNeg 0)))
def ve_X5_clears (rw : Int32) (co : Int32) (cl : Int32) (fi : Int32) (st : Int64) (th : Int32) (bd : Nat → Int32) (lf : Nat → Int32) (hf : Nat → Int32) (of : Nat → Int32) (gf : Nat → Int32) (tf : Nat → Int32) (kf : Nat → Int32) (p1 : Int32) (P : Int32 → ((Nat → Int32)) → Prop) (J2 : Int32 → (Nat → Int32) → Prop) : Prop := (J2 0 bd)
def ve_X5_draw (rw : Int32) (co : Int32) (cl : Int32) (fi : Int32) (st : Int64) (th : Int32) (bd : Nat → Int32) (lf : Nat → Int32) (hf : Nat → Int32) (of : Nat → Int32) (gf : Nat → Int32) (tf : Nat → Int32) (kf : Nat → Int32) (P : Int32 → Int64 → Prop)  : Prop := P (((((st * 1103515245) + 12345) - ((st * 1103515245) + 12345) / 2147483648 * 2147483648) / 65536 : Int64).toInt32) (((st * 1103515245) + 12345) - ((st * 1103515245) + 12345) / 2147483648 * 2147483648)
def ve_X5_puts (rw : Int32) (co : Int32) (cl : Int32) (fi : Int32) (st : Int64) (th : Int32) (bd : Nat → Int32) (lf : Nat → Int32) (hf : Nat → Int32) (of : Nat → Int32) (gf : Nat → Int32) (tf : Nat → Int32) (kf : Nat → Int32) (p1 : Int32) (p2 : Int32) (P : ((Nat → Int32) × (Nat → Int32) × Int32 × (Nat → Int32)) → Prop)  : Prop := vp_in p1 12 ∧ vp_in fi 12 ∧ (mok rw co (upd bd p1.toNatClampNeg p2)) ∧ P (upd bd p1.toNatClampNeg p2, upd lf fi.toNatClampNeg p1, fi + 1, mlk rw co (upd bd p1.toNatClampNeg p2) hf)
def ve_X5_fill (rw : Int32) (co : Int32) (cl : Int32) (fi : Int32) (st : Int64) (th : Int32) (bd : Nat → Int32) (lf : Nat → Int32) (hf : Nat → Int32) (of : Nat → Int32) (gf : Nat → Int32) (tf : Nat → Int32) (kf : Nat → Int32) (p1 : Int32) (p2 : Int32) (P : Int32 → (Int32 × (Nat → Int32) × (Nat → Int32) × Int32 × (Nat → Int32)) → Prop)  : Prop := ((b2i (mic rw co p1)) = 0 → P 0 (1, bd, lf, fi, hf)) ∧ (¬ (b2i (mic rw co p1)) = 0 → ((b2i (min3 p2 1 9)) = 0 → P 0 (2, bd, lf, fi, hf)) ∧ (¬ (b2i (min3 p2 1 9)) = 0 → (mok rw co bd ∧ vp_in p1 12 ∧ vp_in p2 10) ∧ ((b2i (mft rw co bd hf p1 p2)) = 0 → P 0 (3, bd, lf, fi, mfth rw co bd hf p1)) ∧ (¬ (b2i (mft rw co bd hf p1 p2)) = 0 → (mok rw co bd ∧ vp_in p1 12 ∧ vp_in p2 10 ∧ vp_in fi 12) ∧ (mcw (upd bd p1.toNatClampNeg p2) p1) ∧ P (mcn (mfo rw co (upd bd p1.toNatClampNeg p2) (mlk rw co (upd bd p1.toNatClampNeg p2) (mfth rw co bd hf p1)) p1) 12) (0, upd bd p1.toNatClampNeg p2, upd lf fi.toNatClampNeg p1, fi + 1, mlk rw co (upd bd p1.toNatClampNeg p2) (mfth rw co bd hf p1)))))
def ve_X5_undo (rw : Int32) (co : Int32) (cl : Int32) (fi : Int32) (st : Int64) (th : Int32) (bd : Nat → Int32) (lf : Nat → Int32) (hf : Nat → Int32) (of : Nat → Int32) (gf : Nat → Int32) (tf : Nat → Int32) (kf : Nat → Int32) (P : Int32 → (Int32 × Int32 × (Nat → Int32)) → Prop)  : Prop := (fi = 0 → P 0 (1, fi, bd)) ∧ (¬ fi = 0 → vp_in (fi - 1) 12 ∧ vp_in (lf (fi - 1 : Int32).toNatClampNeg) 12 ∧ vp_in (fi - 1) 12 ∧ P (lf (fi - 1 : Int32).toNatClampNeg) (0, fi - 1, upd bd (lf (fi - 1 : Int32).toNatClampNeg : Int32).toNatClampNeg 0))
def ve_X5_isShape (rw : Int32) (co : Int32) (cl : Int32) (fi : Int32) (st : Int64) (th : Int32) (bd : Nat → Int32) (lf : Nat → Int32) (hf : Nat → Int32) (of : Nat → Int32) (gf : Nat → Int32) (tf : Nat → Int32) (kf : Nat → Int32) (p1 : Int32) (p2 : Int32) (P : Int32 → Unit → Prop)  : Prop := vp_in p2 12 ∧ ∀ y_2 : Int32, y_2 = bd p2.toNatClampNeg → ((mcn p1 12) = y_2 → vp_in y_2 10 ∧ ((p1 &&& (((hf y_2.toNatClampNeg) ||| (hf (0 : Int32).toNatClampNeg)) ^^^ (-1))) = 0 → (mcw bd p2) ∧ ∀ y_7 : Int32, y_7 = mfo rw co bd hf p2 → ((p1 &&& y_7) = y_7 → ((mgr rw co p1 33 (1 <<< (p2 &&& 31))) = p1 → vp_in y_2 10 ∧ ((((mbs rw co p1) &&& (p1 ^^^ (-1))) &&& (hf y_2.toNatClampNeg)) = 0 → P 1 ()) ∧ (¬ (((mbs rw co p1) &&& (p1 ^^^ (-1))) &&& (hf y_2.toNatClampNeg)) = 0 → P 0 ())) ∧ (¬ (mgr rw co p1 33 (1 <<< (p2 &&& 31))) = p1 → P 0 ())) ∧ (¬ (p1 &&& y_7) = y_7 → P 0 ())) ∧ (¬ (p1 &&& (((hf y_2.toNatClampNeg) ||| (hf (0 : Int32).toNatClampNeg)) ^^^ (-1))) = 0 → P 0 ())) ∧ (¬ (mcn p1 12) = y_2 → P 0 ())
def vs_X5_shapesOf_5 (rw : Int32) (co : Int32) (cl : Int32) (fi : Int32) (st : Int64) (th : Int32) (bd : Nat → Int32) (lf : Nat → Int32) (hf : Nat → Int32) (of : Nat → Int32) (gf : Nat → Int32) (tf : Nat → Int32) (kf : Nat → Int32) (p1 : Int32) (p2 : Int32) (P : Int32 → Unit → Prop) (J5 : Int32 → Int32 → Prop) (x3 : Int32) (x4 : Int32) : Prop := ((1 <<< ((rw * co) &&& 31)) ≤ x4 → P x3 ()) ∧ (¬ (1 <<< ((rw * co) &&& 31)) ≤ x4 → ((x4 &&& p2) = p2 → (mcw bd p1) ∧ ((b2i (mish rw co bd hf x4 p1)) = 0 → ∀ y_7 : Int32, y_7 = x3 + 0 → ∀ y_8 : Int32, y_8 = x4 + 1 → (J5 y_7 y_8)) ∧ (¬ (b2i (mish rw co bd hf x4 p1)) = 0 → ∀ y_9 : Int32, y_9 = x3 + 1 → ∀ y_10 : Int32, y_10 = x4 + 1 → (J5 y_9 y_10))) ∧ (¬ (x4 &&& p2) = p2 → ∀ y_3 : Int32, y_3 = x3 + 0 → ∀ y_4 : Int32, y_4 = x4 + 1 → (J5 y_3 y_4)))
def ve_X5_shapesOf (rw : Int32) (co : Int32) (cl : Int32) (fi : Int32) (st : Int64) (th : Int32) (bd : Nat → Int32) (lf : Nat → Int32) (hf : Nat → Int32) (of : Nat → Int32) (gf : Nat → Int32) (tf : Nat → Int32) (kf : Nat → Int32) (p1 : Int32) (p2 : Int32) (P : Int32 → Unit → Prop) (J5 : Int32 → Int32 → Prop) : Prop := (J5 0 1)
def vs_X5_onlyNumber_7 (rw : Int32) (co : Int32) (cl : Int32) (fi : Int32) (st : Int64) (th : Int32) (bd : Nat → Int32) (lf : Nat → Int32) (hf : Nat → Int32) (of : Nat → Int32) (gf : Nat → Int32) (tf : Nat → Int32) (kf : Nat → Int32) (p1 : Int32) (P : Int32 → ((Nat → Int32) × (Nat → Int32)) → Prop) (J7 : Int32 → Int32 → Int32 → (Nat → Int32) → (Nat → Int32) → Prop) (x2 : Int32) (x3 : Int32) (x4 : Int32) (bd' : Nat → Int32) (hf' : Nat → Int32) : Prop := (9 < x4 → (x3 = 1 → P x2 (bd', hf')) ∧ (¬ x3 = 1 → P 0 (bd', hf'))) ∧ (¬ 9 < x4 → (mok rw co bd' ∧ vp_in p1 12 ∧ vp_in x4 10) ∧ ∀ y_4 : Int32, y_4 = b2i (mft rw co bd' hf' p1 x4) → (y_4 = 0 → (y_4 = 0 → ∀ y_7 : Int32, y_7 = x3 + 0 → ∀ y_8 : Int32, y_8 = x4 + 1 → (J7 x2 y_7 y_8 bd' (mfth rw co bd' hf' p1))) ∧ (¬ y_4 = 0 → ∀ y_9 : Int32, y_9 = x3 + 1 → ∀ y_10 : Int32, y_10 = x4 + 1 → (J7 x2 y_9 y_10 bd' (mfth rw co bd' hf' p1)))) ∧ (¬ y_4 = 0 → (y_4 = 0 → ∀ y_12 : Int32, y_12 = x3 + 0 → ∀ y_13 : Int32, y_13 = x4 + 1 → (J7 x4 y_12 y_13 bd' (mfth rw co bd' hf' p1))) ∧ (¬ y_4 = 0 → ∀ y_14 : Int32, y_14 = x3 + 1 → ∀ y_15 : Int32, y_15 = x4 + 1 → (J7 x4 y_14 y_15 bd' (mfth rw co bd' hf' p1)))))
def ve_X5_onlyNumber (rw : Int32) (co : Int32) (cl : Int32) (fi : Int32) (st : Int64) (th : Int32) (bd : Nat → Int32) (lf : Nat → Int32) (hf : Nat → Int32) (of : Nat → Int32) (gf : Nat → Int32) (tf : Nat → Int32) (kf : Nat → Int32) (p1 : Int32) (P : Int32 → ((Nat → Int32) × (Nat → Int32)) → Prop) (J7 : Int32 → Int32 → Int32 → (Nat → Int32) → (Nat → Int32) → Prop) : Prop := (J7 0 0 1 bd hf)
def vs_X5_shapedNumber_9 (rw : Int32) (co : Int32) (cl : Int32) (fi : Int32) (st : Int64) (th : Int32) (bd : Nat → Int32) (lf : Nat → Int32) (hf : Nat → Int32) (of : Nat → Int32) (gf : Nat → Int32) (tf : Nat → Int32) (kf : Nat → Int32) (p1 : Int32) (P : Int32 → ((Nat → Int32) × (Nat → Int32)) → Prop) (J9 : Int32 → Int32 → (Nat → Int32) → (Nat → Int32) → Prop) (x2 : Int32) (x3 : Int32) (bd' : Nat → Int32) (hf' : Nat → Int32) : Prop := (x3 < 0 → P x2 (bd', hf')) ∧ (¬ x3 < 0 → ∀ y_2 : Int32, y_2 = (1 <<< (x3 &&& 31)) - 1 → vp_in x3 12 ∧ ((bd' x3.toNatClampNeg) ≤ 0 → ∀ y_5 : Int32, y_5 = x3 + (-1) → (J9 x2 y_5 bd' hf')) ∧ (¬ (bd' x3.toNatClampNeg) ≤ 0 → (mcw bd' x3) ∧ vp_in x3 12 ∧ ((bd' x3.toNatClampNeg) ≤ (mcn (mfo rw co bd' hf' x3) 12) → ∀ y_9 : Int32, y_9 = x3 + (-1) → (J9 x2 y_9 bd' hf')) ∧ (¬ (bd' x3.toNatClampNeg) ≤ (mcn (mfo rw co bd' hf' x3) 12) → (mcw bd' x3) ∧ (((mfo rw co bd' hf' x3) &&& y_2) = 0 → vp_in x3 12 ∧ (mok rw co bd' ∧ vp_in p1 12 ∧ vp_in (bd' x3.toNatClampNeg) 10) ∧ ((b2i (mft rw co bd' hf' p1 (bd' x3.toNatClampNeg))) = 0 → ∀ y_16 : Int32, y_16 = x3 + (-1) → (J9 x2 y_16 bd' (mfth rw co bd' hf' p1))) ∧ (¬ (b2i (mft rw co bd' hf' p1 (bd' x3.toNatClampNeg))) = 0 → (mcw bd' x3) ∧ ∀ y_18 : Int32, y_18 = msO rw co bd' (mfth rw co bd' hf' p1) x3 0 → (y_18 ≤ 0 → ∀ y_20 : Int32, y_20 = x3 + (-1) → (J9 x2 y_20 bd' (mfth rw co bd' hf' p1))) ∧ (¬ y_18 ≤ 0 → (mcw bd' x3) ∧ ((msO rw co bd' (mfth rw co bd' hf' p1) x3 (1 <<< (p1 &&& 31))) = y_18 → vp_in x3 12 ∧ ∀ y_25 : Int32, y_25 = bd' x3.toNatClampNeg → ∀ y_26 : Int32, y_26 = x3 + (-1) → (J9 y_25 y_26 bd' (mfth rw co bd' hf' p1))) ∧ (¬ (msO rw co bd' (mfth rw co bd' hf' p1) x3 (1 <<< (p1 &&& 31))) = y_18 → ∀ y_23 : Int32, y_23 = x3 + (-1) → (J9 x2 y_23 bd' (mfth rw co bd' hf' p1)))))) ∧ (¬ ((mfo rw co bd' hf' x3) &&& y_2) = 0 → ∀ y_12 : Int32, y_12 = x3 + (-1) → (J9 x2 y_12 bd' hf')))))
def ve_X5_shapedNumber (rw : Int32) (co : Int32) (cl : Int32) (fi : Int32) (st : Int64) (th : Int32) (bd : Nat → Int32) (lf : Nat → Int32) (hf : Nat → Int32) (of : Nat → Int32) (gf : Nat → Int32) (tf : Nat → Int32) (kf : Nat → Int32) (p1 : Int32) (P : Int32 → ((Nat → Int32) × (Nat → Int32)) → Prop) (J9 : Int32 → Int32 → (Nat → Int32) → (Nat → Int32) → Prop) : Prop := ∀ y_27 : Int32, y_27 = (rw * co) - 1 → (J9 0 y_27 bd hf)
def vs_X5_reaches_15 (rw : Int32) (co : Int32) (cl : Int32) (fi : Int32) (st : Int64) (th : Int32) (bd : Nat → Int32) (lf : Nat → Int32) (hf : Nat → Int32) (of : Nat → Int32) (gf : Nat → Int32) (tf : Nat → Int32) (kf : Nat → Int32) (p1 : Int32) (p2 : Int32) (P : Int32 → Unit → Prop) (J15 : Int32 → Int32 → Int32 → Prop) (x3 : Int32) (x4 : Int32) (x5 : Int32) : Prop := vp_in p1 12 ∧ ((bd p1.toNatClampNeg) ≤ x5 → P (b2i (mhas x4 p2)) ()) ∧ (¬ (bd p1.toNatClampNeg) ≤ x5 → ∀ y_3 : Int32, y_3 = x4 ||| ((mbs rw co x4) &&& (hf (0 : Int32).toNatClampNeg)) → ∀ y_4 : Int32, y_4 = x5 + 1 → (J15 x3 y_3 y_4))
def ve_X5_reaches (rw : Int32) (co : Int32) (cl : Int32) (fi : Int32) (st : Int64) (th : Int32) (bd : Nat → Int32) (lf : Nat → Int32) (hf : Nat → Int32) (of : Nat → Int32) (gf : Nat → Int32) (tf : Nat → Int32) (kf : Nat → Int32) (p1 : Int32) (p2 : Int32) (P : Int32 → Unit → Prop) (J15 : Int32 → Int32 → Int32 → Prop) : Prop := (mcw bd p1) ∧ ∀ y_6 : Int32, y_6 = mfo rw co bd hf p1 → ∀ y_7 : Int32, y_7 = mcn y_6 12 → (J15 y_6 y_6 y_7)
def vs_X5_hides_17 (rw : Int32) (co : Int32) (cl : Int32) (fi : Int32) (st : Int64) (th : Int32) (bd : Nat → Int32) (lf : Nat → Int32) (hf : Nat → Int32) (of : Nat → Int32) (gf : Nat → Int32) (tf : Nat → Int32) (kf : Nat → Int32) (p1 : Int32) (P : Int32 → Unit → Prop) (J17 : Int32 → Int32 → Prop) (x2 : Int32) (x3 : Int32) : Prop := ((rw * co) ≤ x3 → (narrow .boolean (.int x2) = .int x2 ∧ P x2 ())) ∧ (¬ (rw * co) ≤ x3 → (x2 = 0 → (narrow .boolean (.int x2) = .int x2 ∧ P x2 ())) ∧ (¬ x2 = 0 → vp_in x3 12 ∧ ((bd x3.toNatClampNeg) = 0 → ∀ y_5 : Int32, y_5 = x3 + 1 → (J17 1 y_5)) ∧ (¬ (bd x3.toNatClampNeg) = 0 → (mcw bd x3) ∧ ((b2i (mrch rw co bd hf x3 p1)) = 0 → ∀ y_9 : Int32, y_9 = x3 + 1 → (J17 1 y_9)) ∧ (¬ (b2i (mrch rw co bd hf x3 p1)) = 0 → ∀ y_8 : Int32, y_8 = x3 + 1 → (J17 0 y_8)))))
def ve_X5_hides (rw : Int32) (co : Int32) (cl : Int32) (fi : Int32) (st : Int64) (th : Int32) (bd : Nat → Int32) (lf : Nat → Int32) (hf : Nat → Int32) (of : Nat → Int32) (gf : Nat → Int32) (tf : Nat → Int32) (kf : Nat → Int32) (p1 : Int32) (P : Int32 → Unit → Prop) (J17 : Int32 → Int32 → Prop) : Prop := vp_in p1 12 ∧ ((bd p1.toNatClampNeg) = 0 → (J17 1 0)) ∧ (¬ (bd p1.toNatClampNeg) = 0 → (J17 0 0))
def ve_X5_hiddenNumber (rw : Int32) (co : Int32) (cl : Int32) (fi : Int32) (st : Int64) (th : Int32) (bd : Nat → Int32) (lf : Nat → Int32) (hf : Nat → Int32) (of : Nat → Int32) (gf : Nat → Int32) (tf : Nat → Int32) (kf : Nat → Int32) (p1 : Int32) (P : Int32 → ((Nat → Int32) × (Nat → Int32)) → Prop)  : Prop := (mok rw co bd ∧ vp_in p1 12) ∧ ((b2i (mhd rw co bd hf p1)) = 0 → P 0 (bd, hf)) ∧ (¬ (b2i (mhd rw co bd hf p1)) = 0 → (((mbs rw co (1 <<< (p1 &&& 31))) &&& (hf (0 : Int32).toNatClampNeg)) = 0 → (mok rw co bd ∧ vp_in p1 12 ∧ vp_in 1 10) ∧ ((b2i (mft rw co bd hf p1 1)) = 0 → P 0 (bd, mfth rw co bd hf p1)) ∧ (¬ (b2i (mft rw co bd hf p1 1)) = 0 → P 1 (bd, mfth rw co bd hf p1))) ∧ (¬ ((mbs rw co (1 <<< (p1 &&& 31))) &&& (hf (0 : Int32).toNatClampNeg)) = 0 → P 0 (bd, hf)))
def vs_X5_run_29 (rw : Int32) (co : Int32) (cl : Int32) (fi : Int32) (st : Int64) (th : Int32) (bd : Nat → Int32) (lf : Nat → Int32) (hf : Nat → Int32) (of : Nat → Int32) (gf : Nat → Int32) (tf : Nat → Int32) (kf : Nat → Int32) (p1 : Int32) (P : Int32 → (Int32 × (Nat → Int32) × (Nat → Int32) × Int32 × (Nat → Int32)) → Prop) (J29 : Int32 → Int32 → (Nat → Int32) → (Nat → Int32) → Int32 → (Nat → Int32) → Prop) (x2 : Int32) (th' : Int32) (bd' : Nat → Int32) (lf' : Nat → Int32) (fi' : Int32) (hf' : Nat → Int32) : Prop := ((rw * co) ≤ x2 → P (-1) (th', bd', lf', fi', hf')) ∧ (¬ (rw * co) ≤ x2 → vp_in x2 12 ∧ ((bd' x2.toNatClampNeg) = 0 → (p1 = 0 → (mok rw co bd' ∧ mcur rw co bd' hf' ∧ vp_in x2 12) ∧ ∀ y_18 : Int32, y_18 = monr rw co bd' hf' x2 → (y_18 ≤ 0 → ∀ y_20 : Int32, y_20 = x2 + 1 → (J29 y_20 th' bd' lf' fi' hf')) ∧ (¬ y_18 ≤ 0 → (mok rw co bd' ∧ vp_in x2 12 ∧ vp_in y_18 10 ∧ vp_in fi' 12) ∧ P ((10 * x2) + y_18) (th', upd bd' x2.toNatClampNeg y_18, upd lf' fi'.toNatClampNeg x2, fi' + 1, mlk rw co (upd bd' x2.toNatClampNeg y_18) hf'))) ∧ (¬ p1 = 0 → (p1 = 1 → (mok rw co bd' ∧ mcur rw co bd' hf' ∧ vp_in x2 12) ∧ ∀ y_13 : Int32, y_13 = mshn rw co bd' hf' x2 (mN rw co) (mN rw co) → (y_13 ≤ 0 → ∀ y_15 : Int32, y_15 = x2 + 1 → (J29 y_15 th' bd' lf' fi' hf')) ∧ (¬ y_13 ≤ 0 → (mok rw co bd' ∧ vp_in x2 12 ∧ vp_in y_13 10 ∧ vp_in fi' 12) ∧ P ((10 * x2) + y_13) (th', upd bd' x2.toNatClampNeg y_13, upd lf' fi'.toNatClampNeg x2, fi' + 1, mlk rw co (upd bd' x2.toNatClampNeg y_13) hf'))) ∧ (¬ p1 = 1 → (mok rw co bd' ∧ mcur rw co bd' hf' ∧ vp_in x2 12) ∧ ∀ y_8 : Int32, y_8 = (if mhn rw co bd' hf' x2 then 1 else 0) → (y_8 ≤ 0 → ∀ y_10 : Int32, y_10 = x2 + 1 → (J29 y_10 th' bd' lf' fi' hf')) ∧ (¬ y_8 ≤ 0 → (mok rw co bd' ∧ vp_in x2 12 ∧ vp_in y_8 10 ∧ vp_in fi' 12) ∧ P ((10 * x2) + y_8) (th', upd bd' x2.toNatClampNeg y_8, upd lf' fi'.toNatClampNeg x2, fi' + 1, mlk rw co (upd bd' x2.toNatClampNeg y_8) hf'))))) ∧ (¬ (bd' x2.toNatClampNeg) = 0 → ∀ y_4 : Int32, y_4 = x2 + 1 → (J29 y_4 th' bd' lf' fi' hf')))
def ve_X5_run (rw : Int32) (co : Int32) (cl : Int32) (fi : Int32) (st : Int64) (th : Int32) (bd : Nat → Int32) (lf : Nat → Int32) (hf : Nat → Int32) (of : Nat → Int32) (gf : Nat → Int32) (tf : Nat → Int32) (kf : Nat → Int32) (p1 : Int32) (P : Int32 → (Int32 × (Nat → Int32) × (Nat → Int32) × Int32 × (Nat → Int32)) → Prop) (J29 : Int32 → Int32 → (Nat → Int32) → (Nat → Int32) → Int32 → (Nat → Int32) → Prop) : Prop := ((b2i (min3 p1 0 2)) = 0 → P 0 (1, bd, lf, fi, hf)) ∧ (¬ (b2i (min3 p1 0 2)) = 0 → (mok rw co bd) ∧ (J29 0 0 bd lf fi (mlk rw co bd hf)))
def ve_X5_filled (rw : Int32) (co : Int32) (cl : Int32) (fi : Int32) (st : Int64) (th : Int32) (bd : Nat → Int32) (lf : Nat → Int32) (hf : Nat → Int32) (of : Nat → Int32) (gf : Nat → Int32) (tf : Nat → Int32) (kf : Nat → Int32) (P : Int32 → Int32 → Prop)  : Prop := P fi (0)
def ve_X5_area (rw : Int32) (co : Int32) (cl : Int32) (fi : Int32) (st : Int64) (th : Int32) (bd : Nat → Int32) (lf : Nat → Int32) (hf : Nat → Int32) (of : Nat → Int32) (gf : Nat → Int32) (tf : Nat → Int32) (kf : Nat → Int32) (P : Int32 → Int32 → Prop)  : Prop := P (rw * co) (0)
def ve_X5_isAsked (rw : Int32) (co : Int32) (cl : Int32) (fi : Int32) (st : Int64) (th : Int32) (bd : Nat → Int32) (lf : Nat → Int32) (hf : Nat → Int32) (of : Nat → Int32) (gf : Nat → Int32) (tf : Nat → Int32) (kf : Nat → Int32) (p1 : Int32) (P : Int32 → ((Nat → Int32) × Int32) → Prop)  : Prop := (mok rw co bd) ∧ ((b2i (mic rw co p1)) = 0 → P 0 (mlk rw co bd hf, 1)) ∧ (¬ (b2i (mic rw co p1)) = 0 → P 1 (mlk rw co bd hf, 0))
def ve_X5_at (rw : Int32) (co : Int32) (cl : Int32) (fi : Int32) (st : Int64) (th : Int32) (bd : Nat → Int32) (lf : Nat → Int32) (hf : Nat → Int32) (of : Nat → Int32) (gf : Nat → Int32) (tf : Nat → Int32) (kf : Nat → Int32) (p1 : Int32) (P : Int32 → ((Nat → Int32) × Int32) → Prop)  : Prop := (mok rw co bd) ∧ ((b2i (mic rw co p1)) = 0 → P 0 (mlk rw co bd hf, if mic rw co p1 then 0 else 1)) ∧ (¬ (b2i (mic rw co p1)) = 0 → vp_in p1 12 ∧ P (bd p1.toNatClampNeg) (mlk rw co bd hf, if mic rw co p1 then 0 else 1))
def ve_X5_isClue (rw : Int32) (co : Int32) (cl : Int32) (fi : Int32) (st : Int64) (th : Int32) (bd : Nat → Int32) (lf : Nat → Int32) (hf : Nat → Int32) (of : Nat → Int32) (gf : Nat → Int32) (tf : Nat → Int32) (kf : Nat → Int32) (p1 : Int32) (P : Int32 → ((Nat → Int32) × Int32) → Prop)  : Prop := (mok rw co bd) ∧ ((b2i (mic rw co p1)) = 0 → P 0 (mlk rw co bd hf, if mic rw co p1 then 0 else 1)) ∧ (¬ (b2i (mic rw co p1)) = 0 → ((b2i (mhas cl p1)) = 0 → P 0 (mlk rw co bd hf, if mic rw co p1 then 0 else 1)) ∧ (¬ (b2i (mhas cl p1)) = 0 → P 1 (mlk rw co bd hf, if mic rw co p1 then 0 else 1)))
def ve_X5_size (rw : Int32) (co : Int32) (cl : Int32) (fi : Int32) (st : Int64) (th : Int32) (bd : Nat → Int32) (lf : Nat → Int32) (hf : Nat → Int32) (of : Nat → Int32) (gf : Nat → Int32) (tf : Nat → Int32) (kf : Nat → Int32) (p1 : Int32) (P : Int32 → ((Nat → Int32) × Int32) → Prop)  : Prop := (mok rw co bd) ∧ ((b2i (mic rw co p1)) = 0 → P 0 (mlk rw co bd hf, if mic rw co p1 then 0 else 1)) ∧ (¬ (b2i (mic rw co p1)) = 0 → vp_in p1 12 ∧ ((bd p1.toNatClampNeg) ≤ 0 → P 0 (mlk rw co bd hf, if mic rw co p1 then 0 else 1)) ∧ (¬ (bd p1.toNatClampNeg) ≤ 0 → (mcw bd p1) ∧ P (mcn (mfo rw co bd (mlk rw co bd hf) p1) 12) (mlk rw co bd hf, if mic rw co p1 then 0 else 1)))
def ve_X5_room (rw : Int32) (co : Int32) (cl : Int32) (fi : Int32) (st : Int64) (th : Int32) (bd : Nat → Int32) (lf : Nat → Int32) (hf : Nat → Int32) (of : Nat → Int32) (gf : Nat → Int32) (tf : Nat → Int32) (kf : Nat → Int32) (p1 : Int32) (P : Int32 → ((Nat → Int32) × Int32) → Prop)  : Prop := (mok rw co bd) ∧ ((b2i (mic rw co p1)) = 0 → P 0 (mlk rw co bd hf, if mic rw co p1 then 0 else 1)) ∧ (¬ (b2i (mic rw co p1)) = 0 → vp_in p1 12 ∧ ((bd p1.toNatClampNeg) ≤ 0 → P 0 (mlk rw co bd hf, if mic rw co p1 then 0 else 1)) ∧ (¬ (bd p1.toNatClampNeg) ≤ 0 → (mcw bd p1) ∧ P (mro rw co bd (mlk rw co bd hf) p1) (mlk rw co bd hf, if mic rw co p1 then 0 else 1)))
def ve_X5_canBe (rw : Int32) (co : Int32) (cl : Int32) (fi : Int32) (st : Int64) (th : Int32) (bd : Nat → Int32) (lf : Nat → Int32) (hf : Nat → Int32) (of : Nat → Int32) (gf : Nat → Int32) (tf : Nat → Int32) (kf : Nat → Int32) (p1 : Int32) (p2 : Int32) (P : Int32 → (Int32 × (Nat → Int32) × (Nat → Int32)) → Prop)  : Prop := ((b2i (mic rw co p1)) = 0 → P 0 (1, bd, hf)) ∧ (¬ (b2i (mic rw co p1)) = 0 → ((b2i (min3 p2 1 9)) = 0 → P 0 (2, bd, hf)) ∧ (¬ (b2i (min3 p2 1 9)) = 0 → (mok rw co bd ∧ vp_in p1 12 ∧ vp_in p2 10) ∧ ((b2i (mft rw co bd hf p1 p2)) = 0 → P 0 (0, bd, mfth rw co bd hf p1)) ∧ (¬ (b2i (mft rw co bd hf p1 p2)) = 0 → P 1 (0, bd, mfth rw co bd hf p1))))
def ve_X5_isHidden (rw : Int32) (co : Int32) (cl : Int32) (fi : Int32) (st : Int64) (th : Int32) (bd : Nat → Int32) (lf : Nat → Int32) (hf : Nat → Int32) (of : Nat → Int32) (gf : Nat → Int32) (tf : Nat → Int32) (kf : Nat → Int32) (p1 : Int32) (P : Int32 → ((Nat → Int32) × Int32) → Prop)  : Prop := (mok rw co bd) ∧ ((b2i (mic rw co p1)) = 0 → P 0 (mlk rw co bd hf, if mic rw co p1 then 0 else 1)) ∧ (¬ (b2i (mic rw co p1)) = 0 → (mok rw co bd ∧ vp_in p1 12) ∧ ((b2i (mhd rw co bd (mlk rw co bd hf) p1)) = 0 → P 0 (mlk rw co bd hf, if mic rw co p1 then 0 else 1)) ∧ (¬ (b2i (mhd rw co bd (mlk rw co bd hf) p1)) = 0 → P 1 (mlk rw co bd hf, if mic rw co p1 then 0 else 1)))
def ve_X5_shapes (rw : Int32) (co : Int32) (cl : Int32) (fi : Int32) (st : Int64) (th : Int32) (bd : Nat → Int32) (lf : Nat → Int32) (hf : Nat → Int32) (of : Nat → Int32) (gf : Nat → Int32) (tf : Nat → Int32) (kf : Nat → Int32) (p1 : Int32) (P : Int32 → ((Nat → Int32) × Int32) → Prop)  : Prop := (mok rw co bd) ∧ ((b2i (mic rw co p1)) = 0 → P 0 (mlk rw co bd hf, if mic rw co p1 then 0 else 1)) ∧ (¬ (b2i (mic rw co p1)) = 0 → vp_in p1 12 ∧ ((bd p1.toNatClampNeg) ≤ 0 → P 0 (mlk rw co bd hf, if mic rw co p1 then 0 else 1)) ∧ (¬ (bd p1.toNatClampNeg) ≤ 0 → (mcw bd p1) ∧ P (msO rw co bd (mlk rw co bd hf) p1 0) (mlk rw co bd hf, if mic rw co p1 then 0 else 1)))
def ve_X5_shapesWith (rw : Int32) (co : Int32) (cl : Int32) (fi : Int32) (st : Int64) (th : Int32) (bd : Nat → Int32) (lf : Nat → Int32) (hf : Nat → Int32) (of : Nat → Int32) (gf : Nat → Int32) (tf : Nat → Int32) (kf : Nat → Int32) (p1 : Int32) (p2 : Int32) (P : Int32 → ((Nat → Int32) × Int32) → Prop)  : Prop := (mok rw co bd) ∧ ((b2i (mic rw co p1)) = 0 → P 0 (mlk rw co bd hf, 1)) ∧ (¬ (b2i (mic rw co p1)) = 0 → ((b2i (mic rw co p2)) = 0 → P 0 (mlk rw co bd hf, 1)) ∧ (¬ (b2i (mic rw co p2)) = 0 → vp_in p1 12 ∧ ((bd p1.toNatClampNeg) ≤ 0 → P 0 (mlk rw co bd hf, 0)) ∧ (¬ (bd p1.toNatClampNeg) ≤ 0 → (mcw bd p1) ∧ P (msO rw co bd (mlk rw co bd hf) p1 (1 <<< (p2 &&& 31))) (mlk rw co bd hf, 0))))
def vs_X5_isSolved_13 (rw : Int32) (co : Int32) (cl : Int32) (fi : Int32) (st : Int64) (th : Int32) (bd : Nat → Int32) (lf : Nat → Int32) (hf : Nat → Int32) (of : Nat → Int32) (gf : Nat → Int32) (tf : Nat → Int32) (kf : Nat → Int32) (P : Int32 → ((Nat → Int32) × Int32) → Prop) (J13 : Int32 → Int32 → (Nat → Int32) → Int32 → Prop) (x1 : Int32) (x2 : Int32) (hf' : Nat → Int32) (th' : Int32) : Prop := ((rw * co) ≤ x2 → (narrow .boolean (.int x1) = .int x1 ∧ P x1 (hf', th'))) ∧ (¬ (rw * co) ≤ x2 → (x1 = 0 → (narrow .boolean (.int x1) = .int x1 ∧ P x1 (hf', th'))) ∧ (¬ x1 = 0 → vp_in x2 12 ∧ ((bd x2.toNatClampNeg) ≤ 0 → ∀ y_5 : Int32, y_5 = x2 + 1 → (J13 0 y_5 hf' th')) ∧ (¬ (bd x2.toNatClampNeg) ≤ 0 → (mcw bd x2) ∧ vp_in x2 12 ∧ ((mcn (mfo rw co bd hf' x2) 12) = (bd x2.toNatClampNeg) → ∀ y_10 : Int32, y_10 = x2 + 1 → (J13 1 y_10 hf' th')) ∧ (¬ (mcn (mfo rw co bd hf' x2) 12) = (bd x2.toNatClampNeg) → ∀ y_9 : Int32, y_9 = x2 + 1 → (J13 0 y_9 hf' th')))))
def ve_X5_isSolved (rw : Int32) (co : Int32) (cl : Int32) (fi : Int32) (st : Int64) (th : Int32) (bd : Nat → Int32) (lf : Nat → Int32) (hf : Nat → Int32) (of : Nat → Int32) (gf : Nat → Int32) (tf : Nat → Int32) (kf : Nat → Int32) (P : Int32 → ((Nat → Int32) × Int32) → Prop) (J13 : Int32 → Int32 → (Nat → Int32) → Int32 → Prop) : Prop := (mok rw co bd) ∧ (J13 1 0 (mlk rw co bd hf) 0)
/-! the reference's small methods: their loops -/
theorem hmu (N : Nat) {k : Nat} (h : k < N) (hN : N < 2 ^ 31) : N - (nI k + 1).toNatClampNeg < N - (nI k).toNatClampNeg := by
  rw [nI_1, nI_clamp (by omega), nI_clamp (by omega)]; omega
theorem vp_10 {x : Int32} (h : vp_in x 10) : ∃ j : Nat, j < 10 ∧ x = nI j := vp_in_of h (by decide)
theorem vp_12 {x : Int32} (h : vp_in x 12) : ∃ j : Nat, j < 12 ∧ x = nI j := vp_in_of h (by decide)
theorem mN_of {rw co : Int32} {N : Nat} (hN : N ≤ 12) (h : rw * co = nI N) : mN rw co = N := by unfold mN; rw [h, nI_clamp (by omega)]
theorem mok_N {rw co : Int32} {bd : Nat → Int32} (h : mok rw co bd) : mN rw co ≤ 12 ∧ rw * co = nI (mN rw co) := by
  obtain ⟨⟨N, hN, e⟩, -⟩ := h
  rw [mN_of hN e]; exact ⟨hN, e⟩
theorem mok_upd {rw co : Int32} {bd : Nat → Int32} (h : mok rw co bd) {c : Nat} {n : Int32} (hn : vp_in n 10) : mok rw co (upd bd c n) := by
  refine ⟨h.1, fun k hk => ?_⟩
  unfold upd
  split
  · exact hn
  · exact h.2 k hk
theorem upd_back {bd : Nat → Int32} {c : Nat} {n : Int32} (h : bd c = 0) : upd (upd bd c n) c 0 = bd := by
  funext k
  unfold upd
  split
  · next e => rw [e, h]
  · rfl
theorem mlk_mlk {rw co : Int32} {bd b2 hf : Nat → Int32} : mlk rw co bd (mlk rw co b2 hf) = mlk rw co bd hf := by
  funext j
  unfold mlk
  split <;> rfl
theorem vp_0_10 : vp_in 0 10 := vp_in_nI (n := 0) (N := 10) (by decide) (by decide)
theorem vp_1_10 : vp_in 1 10 := vp_in_nI (n := 1) (N := 10) (by decide) (by decide)
theorem pe_X5_thrown (rw : Int32) (co : Int32) (cl : Int32) (fi : Int32) (st : Int64) (th : Int32) (bd : Nat → Int32) (lf : Nat → Int32) (hf : Nat → Int32) (of : Nat → Int32) (gf : Nat → Int32) (tf : Nat → Int32) (kf : Nat → Int32) : ve_X5_thrown rw co cl fi st th bd lf hf of gf tf kf (fun (r : Int32) (u : Unit) => r = th)  := rfl
theorem pe_X5_can (rw : Int32) (co : Int32) (cl : Int32) (fi : Int32) (st : Int64) (th : Int32) (bd : Nat → Int32) (lf : Nat → Int32) (hf : Nat → Int32) (of : Nat → Int32) (gf : Nat → Int32) (tf : Nat → Int32) (kf : Nat → Int32) (p1 : Int32) : ve_X5_can rw co cl fi st th bd lf hf of gf tf kf p1 (fun (r : Int32) (u : Int32) => r = b2i (decide ((p1 : Int32) = 0)) ∧ u = (p1))  := by
  exact ⟨fun c => ⟨by simp [c, b2i], rfl⟩, fun c => ⟨by simp [c, b2i], rfl⟩⟩
theorem pe_X5_isIn (p0 : Int32) (p1 : Int32) (p2 : Int32) : ve_X5_isIn p0 p1 p2 (fun (r : Int32) (u : Unit) => r = b2i (min3 p0 p1 p2))  := by
  refine ⟨fun c => ?_, fun c => ⟨fun c2 => ?_, fun c2 => ?_⟩⟩
  · show (0 : Int32) = b2i (min3 p0 p1 p2)
    unfold min3; rw [decide_eq_false (Int32.not_le.mpr c)]; rfl
  · show (0 : Int32) = b2i (min3 p0 p1 p2)
    unfold min3; rw [decide_eq_false (Int32.not_le.mpr c2), Bool.and_false]; rfl
  · show (1 : Int32) = b2i (min3 p0 p1 p2)
    unfold min3; rw [decide_eq_true (Int32.not_lt.mp c), decide_eq_true (Int32.not_lt.mp c2)]; rfl
theorem pe_X5_cells (rw : Int32) (co : Int32) (cl : Int32) (fi : Int32) (st : Int64) (th : Int32) (bd : Nat → Int32) (lf : Nat → Int32) (hf : Nat → Int32) (of : Nat → Int32) (gf : Nat → Int32) (tf : Nat → Int32) (kf : Nat → Int32) : ve_X5_cells rw co cl fi st th bd lf hf of gf tf kf (fun (r : Int32) (u : Unit) => r = rw * co)  := rfl
theorem pe_X5_isCell (rw : Int32) (co : Int32) (cl : Int32) (fi : Int32) (st : Int64) (th : Int32) (bd : Nat → Int32) (lf : Nat → Int32) (hf : Nat → Int32) (of : Nat → Int32) (gf : Nat → Int32) (tf : Nat → Int32) (kf : Nat → Int32) (p1 : Int32) : ve_X5_isCell rw co cl fi st th bd lf hf of gf tf kf p1 (fun (r : Int32) (u : Unit) => r = b2i (mic rw co p1))  := rfl
theorem pe_X5_has (p0 : Int32) (p1 : Int32) : ve_X5_has p0 p1 (fun (r : Int32) (u : Unit) => r = b2i (mhas p0 p1))  := by
  exact ⟨fun c => by simp [mhas, c, b2i], fun c => by simp [mhas, c, b2i]⟩
def I_X5_count_4 (p0 : Int32) : Int32 → Int32 → Prop := fun x1 x2 => ∃ k : Nat, k ≤ 12 ∧ x2 = nI k ∧ x1 = mcn p0 k
def mu_X5_count_4 (p0 : Int32) : Int32 → Int32 → Nat := fun x1 x2 => 12 - x2.toNatClampNeg
theorem pl_X5_count_4 (p0 : Int32) : ∀ (x1 : Int32) (x2 : Int32), I_X5_count_4 p0 x1 x2 → vs_X5_count_4 p0 (fun (r : Int32) (u : Unit) => r = mcn p0 12) (fun (x19 : Int32) (x29 : Int32) => I_X5_count_4 p0 x19 x29 ∧ mu_X5_count_4 p0 x19 x29 < mu_X5_count_4 p0 x1 x2) x1 x2 := by
  rintro x1 x2 ⟨k, hk, rfl, rfl⟩
  refine ⟨fun c => ?_, fun c => ?_⟩
  · have c := k_le (a := 12) (by decide) (by omega) c
    obtain rfl : k = 12 := by omega
    rfl
  · have c := k_nle (a := 12) (by decide) (by omega) c
    rintro y rfl y2 rfl
    exact ⟨⟨k + 1, c, nI_1 k, rfl⟩, hmu 12 c (by decide)⟩
theorem pe_X5_count (p0 : Int32) : ve_X5_count p0 (fun (r : Int32) (u : Unit) => r = mcn p0 12) (I_X5_count_4 p0) := ⟨0, by decide, rfl, rfl⟩
def I_X5_beside_4 (rw : Int32) (co : Int32) (cl : Int32) (fi : Int32) (st : Int64) (th : Int32) (bd : Nat → Int32) (lf : Nat → Int32) (hf : Nat → Int32) (of : Nat → Int32) (gf : Nat → Int32) (tf : Nat → Int32) (kf : Nat → Int32) (p1 : Int32) : Int32 → Int32 → Prop := fun x2 x3 => ∃ k : Nat, k ≤ rw.toNatClampNeg ∧ x3 = nI k ∧ x2 = zfc co k
def mu_X5_beside_4 (rw : Int32) (co : Int32) (cl : Int32) (fi : Int32) (st : Int64) (th : Int32) (bd : Nat → Int32) (lf : Nat → Int32) (hf : Nat → Int32) (of : Nat → Int32) (gf : Nat → Int32) (tf : Nat → Int32) (kf : Nat → Int32) (p1 : Int32) : Int32 → Int32 → Nat := fun x2 x3 => rw.toNatClampNeg - x3.toNatClampNeg
theorem pl_X5_beside_4 (rw : Int32) (co : Int32) (cl : Int32) (fi : Int32) (st : Int64) (th : Int32) (bd : Nat → Int32) (lf : Nat → Int32) (hf : Nat → Int32) (of : Nat → Int32) (gf : Nat → Int32) (tf : Nat → Int32) (kf : Nat → Int32) (p1 : Int32) : ∀ (x2 : Int32) (x3 : Int32), I_X5_beside_4 rw co cl fi st th bd lf hf of gf tf kf p1 x2 x3 → vs_X5_beside_4 rw co cl fi st th bd lf hf of gf tf kf p1 (fun (r : Int32) (u : Unit) => r = mbs rw co p1) (fun (x29 : Int32) (x39 : Int32) => I_X5_beside_4 rw co cl fi st th bd lf hf of gf tf kf p1 x29 x39 ∧ mu_X5_beside_4 rw co cl fi st th bd lf hf of gf tf kf p1 x29 x39 < mu_X5_beside_4 rw co cl fi st th bd lf hf of gf tf kf p1 x2 x3) x2 x3 := by
  rintro x2 x3 ⟨k, hk, rfl, rfl⟩
  have hb := cl_lt rw
  refine ⟨fun c => ?_, fun c => ?_⟩
  · rw [cl_le rw (by omega)] at c
    obtain rfl : k = rw.toNatClampNeg := by omega
    rintro y rfl y2 rfl
    rfl
  · rw [cl_le rw (by omega)] at c
    rintro y rfl y2 rfl
    exact ⟨⟨k + 1, by omega, nI_1 k, rfl⟩, hmu _ (by omega) hb⟩
theorem pe_X5_beside (rw : Int32) (co : Int32) (cl : Int32) (fi : Int32) (st : Int64) (th : Int32) (bd : Nat → Int32) (lf : Nat → Int32) (hf : Nat → Int32) (of : Nat → Int32) (gf : Nat → Int32) (tf : Nat → Int32) (kf : Nat → Int32) (p1 : Int32) : ve_X5_beside rw co cl fi st th bd lf hf of gf tf kf p1 (fun (r : Int32) (u : Unit) => r = mbs rw co p1) (I_X5_beside_4 rw co cl fi st th bd lf hf of gf tf kf p1) := ⟨0, Nat.zero_le _, rfl, rfl⟩
/-- how many of the low n bits are 0 -/
def zc (x : BitVec 32) : Nat → Nat | 0 => 0 | n + 1 => zc x n + if x.getLsbD n then 0 else 1
theorem zc_le (x : BitVec 32) : ∀ n, zc x n ≤ n
  | 0 => Nat.le_refl 0
  | n + 1 => by
    have := zc_le x n
    simp only [zc]
    split <;> omega
theorem zc_mono (x t : BitVec 32) : ∀ n, zc (x ||| t) n ≤ zc x n
  | 0 => Nat.le_refl 0
  | n + 1 => by
    have := zc_mono x t n
    simp only [zc, BitVec.getLsbD_or]
    cases x.getLsbD n <;> cases t.getLsbD n <;> simp <;> omega
theorem zc_lt (x t : BitVec 32) (i : Nat) (hx : x.getLsbD i = false) (ht : t.getLsbD i = true) : ∀ n, i < n → zc (x ||| t) n < zc x n
  | 0, h => absurd h (Nat.not_lt_zero _)
  | n + 1, h => by
    simp only [zc, BitVec.getLsbD_or]
    by_cases e : i = n
    · subst e
      have := zc_mono x t i
      simp [hx, ht]; omega
    · have := zc_lt x t i hx ht n (by omega)
      cases x.getLsbD n <;> cases t.getLsbD n <;> simp <;> omega
def zb (x : Int32) : Nat := zc x.toBitVec 32
theorem zb_le (x : Int32) : zb x ≤ 32 := zc_le _ _
theorem zb_lt {x t : Int32} (h : ¬ x ||| t = x) : zb (x ||| t) < zb x := by
  unfold zb
  rw [Int32.toBitVec_or]
  have : ∃ i, i < 32 ∧ x.toBitVec.getLsbD i = false ∧ t.toBitVec.getLsbD i = true := by
    apply Classical.byContradiction
    intro hn
    apply h
    apply Int32.toBitVec_inj.mp
    rw [Int32.toBitVec_or]
    apply BitVec.eq_of_getLsbD_eq
    intro i hi
    rw [BitVec.getLsbD_or]
    cases hx : x.toBitVec.getLsbD i
    · cases ht : t.toBitVec.getLsbD i
      · rfl
      · exact absurd ⟨i, hi, hx, ht⟩ hn
    · rfl
  obtain ⟨i, hi, h1, h2⟩ := this
  exact zc_lt _ _ i h1 h2 32 hi
theorem mgr_stable {rw co w : Int32} : ∀ (n m : Nat) (x : Int32), zb x ≤ n → zb x ≤ m → mgr rw co w n x = mgr rw co w m x := by
  intro n
  induction n with
  | zero =>
    intro m x h1 h2
    cases m with
    | zero => rfl
    | succ m =>
      simp only [mgr]
      by_cases e : x ||| (mbs rw co x &&& w) = x
      · rw [if_pos e]
      · have := zb_lt e; omega
  | succ n ih =>
    intro m x h1 h2
    cases m with
    | zero =>
      simp only [mgr]
      by_cases e : x ||| (mbs rw co x &&& w) = x
      · rw [if_pos e]
      · have := zb_lt e; omega
    | succ m =>
      simp only [mgr]
      by_cases e : x ||| (mbs rw co x &&& w) = x
      · rw [if_pos e, if_pos e]
      · have := zb_lt e
        rw [if_neg e, if_neg e]
        exact ih m _ (by omega) (by omega)
theorem i0_and (x : Int32) : (0 : Int32) &&& x = 0 := by
  apply Int32.toBitVec_inj.mp; rw [Int32.toBitVec_and]; exact BitVec.zero_and
theorem i0_shl (x : Int32) : (0 : Int32) <<< x = 0 := by
  apply Int32.toBitVec_inj.mp; show (0#32 : BitVec 32) <<< (x.toBitVec.smod 32) = 0#32; simp
theorem i0_shr (x : Int32) : (0 : Int32) >>> x = 0 := by
  apply Int32.toBitVec_inj.mp; show BitVec.sshiftRight' (0#32 : BitVec 32) (x.toBitVec.smod 32) = 0#32; simp
theorem mbs_0 (rw co : Int32) : mbs rw co 0 = 0 := by
  unfold mbs
  rw [i0_and, i0_and, i0_shl, i0_shl, i0_shr, i0_shr]
  have : ((0 : Int32) ||| 0) ||| 0 ||| 0 = 0 := by decide
  rw [this, i0_and]
theorem mgr_0 (rw co w : Int32) : ∀ n, mgr rw co w n 0 = 0
  | 0 => rfl
  | n + 1 => by
    simp only [mgr, mbs_0, i0_and]
    rw [if_pos (by decide)]
def I_X5_grown_5 (rw : Int32) (co : Int32) (cl : Int32) (fi : Int32) (st : Int64) (th : Int32) (bd : Nat → Int32) (lf : Nat → Int32) (hf : Nat → Int32) (of : Nat → Int32) (gf : Nat → Int32) (tf : Nat → Int32) (kf : Nat → Int32) (p1 : Int32) (p2 : Int32) : Int32 → Int32 → Prop := fun x3 x4 => mgr rw co p2 33 x3 = mgr rw co p2 33 p1 ∧ (x3 = x4 → mgr rw co p2 33 x3 = x3)
def mu_X5_grown_5 (rw : Int32) (co : Int32) (cl : Int32) (fi : Int32) (st : Int64) (th : Int32) (bd : Nat → Int32) (lf : Nat → Int32) (hf : Nat → Int32) (of : Nat → Int32) (gf : Nat → Int32) (tf : Nat → Int32) (kf : Nat → Int32) (p1 : Int32) (p2 : Int32) : Int32 → Int32 → Nat := fun x3 x4 => 2 * zb x3 + (if x3 = x4 then 0 else 1)
theorem pl_X5_grown_5 (rw : Int32) (co : Int32) (cl : Int32) (fi : Int32) (st : Int64) (th : Int32) (bd : Nat → Int32) (lf : Nat → Int32) (hf : Nat → Int32) (of : Nat → Int32) (gf : Nat → Int32) (tf : Nat → Int32) (kf : Nat → Int32) (p1 : Int32) (p2 : Int32) : ∀ (x3 : Int32) (x4 : Int32), I_X5_grown_5 rw co cl fi st th bd lf hf of gf tf kf p1 p2 x3 x4 → vs_X5_grown_5 rw co cl fi st th bd lf hf of gf tf kf p1 p2 (fun (r : Int32) (u : Unit) => r = mgr rw co p2 33 p1) (fun (x39 : Int32) (x49 : Int32) => I_X5_grown_5 rw co cl fi st th bd lf hf of gf tf kf p1 p2 x39 x49 ∧ mu_X5_grown_5 rw co cl fi st th bd lf hf of gf tf kf p1 p2 x39 x49 < mu_X5_grown_5 rw co cl fi st th bd lf hf of gf tf kf p1 p2 x3 x4) x3 x4 := by
  rintro x3 x4 ⟨h1, h2⟩
  refine ⟨fun c => ?_, fun c => ?_⟩
  · show x3 = mgr rw co p2 33 p1
    rw [← h1, h2 c]
  · rintro y rfl
    by_cases e : x3 ||| (mbs rw co x3 &&& p2) = x3
    · have hf : mgr rw co p2 33 x3 = x3 := by simp only [mgr, if_pos e]
      refine ⟨⟨by rw [e, h1], fun _ => by rw [e, hf]⟩, ?_⟩
      show 2 * zb _ + _ < 2 * zb x3 + _
      rw [e, if_pos rfl, if_neg c]; omega
    · have hz := zb_lt e
      have hl := zb_le x3
      refine ⟨⟨?_, fun q => absurd q e⟩, ?_⟩
      · rw [← h1]
        have : mgr rw co p2 33 x3 = mgr rw co p2 32 (x3 ||| (mbs rw co x3 &&& p2)) := by simp only [mgr, if_neg e]
        rw [this]
        exact mgr_stable _ _ _ (by omega) (by omega)
      · show 2 * zb _ + _ < 2 * zb x3 + _
        rw [if_neg e, if_neg c]; omega
theorem pe_X5_grown (rw : Int32) (co : Int32) (cl : Int32) (fi : Int32) (st : Int64) (th : Int32) (bd : Nat → Int32) (lf : Nat → Int32) (hf : Nat → Int32) (of : Nat → Int32) (gf : Nat → Int32) (tf : Nat → Int32) (kf : Nat → Int32) (p1 : Int32) (p2 : Int32) : ve_X5_grown rw co cl fi st th bd lf hf of gf tf kf p1 p2 (fun (r : Int32) (u : Unit) => r = mgr rw co p2 33 p1) (I_X5_grown_5 rw co cl fi st th bd lf hf of gf tf kf p1 p2) := by
  refine ⟨rfl, fun c => ?_⟩
  rw [c]; exact mgr_0 _ _ _ _
def I_X5_looks_2 (rw : Int32) (co : Int32) (cl : Int32) (fi : Int32) (st : Int64) (th : Int32) (bd : Nat → Int32) (lf : Nat → Int32) (hf : Nat → Int32) (of : Nat → Int32) (gf : Nat → Int32) (tf : Nat → Int32) (kf : Nat → Int32) : Int32 → (Nat → Int32) → Prop := fun x1 hf' => mok rw co bd ∧ ∃ k : Nat, k ≤ 10 ∧ x1 = nI k ∧ hf' = fun j => if j < k then 0 else hf j
def mu_X5_looks_2 (rw : Int32) (co : Int32) (cl : Int32) (fi : Int32) (st : Int64) (th : Int32) (bd : Nat → Int32) (lf : Nat → Int32) (hf : Nat → Int32) (of : Nat → Int32) (gf : Nat → Int32) (tf : Nat → Int32) (kf : Nat → Int32) : Int32 → (Nat → Int32) → Nat := fun x1 hf' => 10 - x1.toNatClampNeg
def I_X5_looks_23 (rw : Int32) (co : Int32) (cl : Int32) (fi : Int32) (st : Int64) (th : Int32) (bd : Nat → Int32) (lf : Nat → Int32) (hf : Nat → Int32) (of : Nat → Int32) (gf : Nat → Int32) (tf : Nat → Int32) (kf : Nat → Int32) : Int32 → (Nat → Int32) → Prop := fun x1 hf' => mok rw co bd ∧ ∃ k : Nat, k ≤ mN rw co ∧ x1 = nI k ∧ hf' = fun j => if j < 10 then mhv bd j k else hf j
def mu_X5_looks_23 (rw : Int32) (co : Int32) (cl : Int32) (fi : Int32) (st : Int64) (th : Int32) (bd : Nat → Int32) (lf : Nat → Int32) (hf : Nat → Int32) (of : Nat → Int32) (gf : Nat → Int32) (tf : Nat → Int32) (kf : Nat → Int32) : Int32 → (Nat → Int32) → Nat := fun x1 hf' => mN rw co - x1.toNatClampNeg
theorem pl_X5_looks_2 (rw : Int32) (co : Int32) (cl : Int32) (fi : Int32) (st : Int64) (th : Int32) (bd : Nat → Int32) (lf : Nat → Int32) (hf : Nat → Int32) (of : Nat → Int32) (gf : Nat → Int32) (tf : Nat → Int32) (kf : Nat → Int32) (hpre : mok rw co bd) : ∀ (x1 : Int32) (hf' : Nat → Int32), I_X5_looks_2 rw co cl fi st th bd lf hf of gf tf kf x1 hf' → vs_X5_looks_2 rw co cl fi st th bd lf hf of gf tf kf (fun (u : (Nat → Int32)) => u = (mlk rw co bd hf)) (fun (x19 : Int32) (hf9 : Nat → Int32) => I_X5_looks_2 rw co cl fi st th bd lf hf of gf tf kf x19 hf9 ∧ mu_X5_looks_2 rw co cl fi st th bd lf hf of gf tf kf x19 hf9 < mu_X5_looks_2 rw co cl fi st th bd lf hf of gf tf kf x1 hf') (I_X5_looks_23 rw co cl fi st th bd lf hf of gf tf kf) x1 hf' := by
  rintro x1 hf' ⟨hok, k, hk, rfl, ef⟩
  refine ⟨fun c => ?_, fun c => ?_⟩
  · have c := k_lt (a := 9) (by decide) (by omega) c
    obtain rfl : k = 10 := by omega
    refine ⟨hok, 0, Nat.zero_le _, rfl, ?_⟩
    rw [ef]; rfl
  · have c := k_nlt (a := 9) (by decide) (by omega) c
    refine ⟨vp_in_nI (by omega) (by decide), ?_⟩
    rintro y rfl
    refine ⟨⟨hok, k + 1, by omega, nI_1 k, ?_⟩, hmu 10 (by omega) (by decide)⟩
    rw [nI_clamp (by omega)]
    exact upd_step ef rfl
theorem pl_X5_looks_23 (rw : Int32) (co : Int32) (cl : Int32) (fi : Int32) (st : Int64) (th : Int32) (bd : Nat → Int32) (lf : Nat → Int32) (hf : Nat → Int32) (of : Nat → Int32) (gf : Nat → Int32) (tf : Nat → Int32) (kf : Nat → Int32) (hpre : mok rw co bd) : ∀ (x1 : Int32) (hf' : Nat → Int32), I_X5_looks_23 rw co cl fi st th bd lf hf of gf tf kf x1 hf' → vs_X5_looks_23 rw co cl fi st th bd lf hf of gf tf kf (fun (u : (Nat → Int32)) => u = (mlk rw co bd hf)) (I_X5_looks_2 rw co cl fi st th bd lf hf of gf tf kf) (fun (x19 : Int32) (hf9 : Nat → Int32) => I_X5_looks_23 rw co cl fi st th bd lf hf of gf tf kf x19 hf9 ∧ mu_X5_looks_23 rw co cl fi st th bd lf hf of gf tf kf x19 hf9 < mu_X5_looks_23 rw co cl fi st th bd lf hf of gf tf kf x1 hf') x1 hf' := by
  rintro x1 hf' ⟨hok, k, hk, rfl, ef⟩
  have hN := mok_N hok
  refine ⟨fun c => ?_, fun c => ?_⟩
  · rw [cl_le _ (by omega)] at c
    obtain rfl : k = mN rw co := by show k = (rw * co).toNatClampNeg; have : mN rw co = (rw * co).toNatClampNeg := rfl; omega
    show hf' = mlk rw co bd hf
    rw [ef]; rfl
  · rw [cl_le _ (by omega)] at c
    have c : k < mN rw co := Nat.lt_of_not_le c
    have hb := hok.2 k (by omega)
    rw [nI_clamp (by omega)]
    refine ⟨vp_in_nI (by omega) (by decide), hb, hb, ?_⟩
    rintro y rfl
    refine ⟨⟨hok, k + 1, c, nI_1 k, ?_⟩, hmu _ c (by omega)⟩
    obtain ⟨b, hb1, hb2⟩ := vp_10 hb
    rw [hb2, nI_clamp (by omega)]
    funext j
    simp only [upd, ef, mhv, hb2]
    by_cases e : j = b
    · subst e; simp [hb1, zbit]
    · have : ¬ nI b = nI j ∨ ¬ j < 10 := by
        by_cases q : j < 10
        · exact Or.inl (fun z => e ((nI_eq (by omega) (by omega)).mp z).symm)
        · exact Or.inr q
      rcases this with q | q
      · simp [e, q]
      · simp [e, q]
theorem pe_X5_looks (rw : Int32) (co : Int32) (cl : Int32) (fi : Int32) (st : Int64) (th : Int32) (bd : Nat → Int32) (lf : Nat → Int32) (hf : Nat → Int32) (of : Nat → Int32) (gf : Nat → Int32) (tf : Nat → Int32) (kf : Nat → Int32) (hpre : mok rw co bd) : ve_X5_looks rw co cl fi st th bd lf hf of gf tf kf (fun (u : (Nat → Int32)) => u = (mlk rw co bd hf)) (I_X5_looks_2 rw co cl fi st th bd lf hf of gf tf kf) (I_X5_looks_23 rw co cl fi st th bd lf hf of gf tf kf) := ⟨hpre, 0, Nat.zero_le _, rfl, rfl⟩
theorem pe_X5_fieldOf (rw : Int32) (co : Int32) (cl : Int32) (fi : Int32) (st : Int64) (th : Int32) (bd : Nat → Int32) (lf : Nat → Int32) (hf : Nat → Int32) (of : Nat → Int32) (gf : Nat → Int32) (tf : Nat → Int32) (kf : Nat → Int32) (p1 : Int32) (hpre : mcw bd p1) : ve_X5_fieldOf rw co cl fi st th bd lf hf of gf tf kf p1 (fun (r : Int32) (u : Unit) => r = mfo rw co bd hf p1)  := ⟨hpre.1, hpre.2, rfl⟩
theorem pe_X5_roomOf (rw : Int32) (co : Int32) (cl : Int32) (fi : Int32) (st : Int64) (th : Int32) (bd : Nat → Int32) (lf : Nat → Int32) (hf : Nat → Int32) (of : Nat → Int32) (gf : Nat → Int32) (tf : Nat → Int32) (kf : Nat → Int32) (p1 : Int32) (hpre : mcw bd p1) : ve_X5_roomOf rw co cl fi st th bd lf hf of gf tf kf p1 (fun (r : Int32) (u : Unit) => r = mro rw co bd hf p1)  := ⟨hpre.1, hpre.2, rfl⟩
def I_X5_isSound_8 (rw : Int32) (co : Int32) (cl : Int32) (fi : Int32) (st : Int64) (th : Int32) (bd : Nat → Int32) (lf : Nat → Int32) (hf : Nat → Int32) (of : Nat → Int32) (gf : Nat → Int32) (tf : Nat → Int32) (kf : Nat → Int32) : Int32 → Int32 → (Nat → Int32) → Prop := fun x1 x2 hf' => mok rw co bd ∧ hf' = mlk rw co bd hf ∧ ∃ (k j : Nat) (b : Bool), k + j = mN rw co ∧ x2 = nI k ∧ x1 = b2i b ∧ (b && msF rw co bd hf' (mN rw co) j) = mso rw co bd hf
def mu_X5_isSound_8 (rw : Int32) (co : Int32) (cl : Int32) (fi : Int32) (st : Int64) (th : Int32) (bd : Nat → Int32) (lf : Nat → Int32) (hf : Nat → Int32) (of : Nat → Int32) (gf : Nat → Int32) (tf : Nat → Int32) (kf : Nat → Int32) : Int32 → Int32 → (Nat → Int32) → Nat := fun x1 x2 hf' => mN rw co - x2.toNatClampNeg
theorem pl_X5_isSound_8 (rw : Int32) (co : Int32) (cl : Int32) (fi : Int32) (st : Int64) (th : Int32) (bd : Nat → Int32) (lf : Nat → Int32) (hf : Nat → Int32) (of : Nat → Int32) (gf : Nat → Int32) (tf : Nat → Int32) (kf : Nat → Int32) (hpre : mok rw co bd) : ∀ (x1 : Int32) (x2 : Int32) (hf' : Nat → Int32), I_X5_isSound_8 rw co cl fi st th bd lf hf of gf tf kf x1 x2 hf' → vs_X5_isSound_8 rw co cl fi st th bd lf hf of gf tf kf (fun (r : Int32) (u : (Nat → Int32)) => r = b2i (mso rw co bd hf) ∧ u = (mlk rw co bd hf)) (fun (x19 : Int32) (x29 : Int32) (hf9 : Nat → Int32) => I_X5_isSound_8 rw co cl fi st th bd lf hf of gf tf kf x19 x29 hf9 ∧ mu_X5_isSound_8 rw co cl fi st th bd lf hf of gf tf kf x19 x29 hf9 < mu_X5_isSound_8 rw co cl fi st th bd lf hf of gf tf kf x1 x2 hf') x1 x2 hf' := by
  rintro x1 x2 hf' ⟨hok, ef, k, j, b, hkj, rfl, rfl, he⟩
  have hN := mok_N hok
  have hmN : mN rw co = (rw * co).toNatClampNeg := rfl
  refine ⟨fun c => ?_, fun c => ?_⟩
  · rw [cl_le _ (by omega)] at c
    obtain rfl : j = 0 := by omega
    refine ⟨b2i_narrow _, ?_, ef⟩
    rw [← he]; simp [msF]
  · rw [cl_le _ (by omega)] at c
    obtain ⟨i, rfl⟩ : ∃ i, j = i + 1 := ⟨j - 1, by omega⟩
    have ek : mN rw co - (i + 1) = k := by omega
    have e1 : (nI k).toNatClampNeg = k := nI_clamp (by omega)
    have hv : vp_in (nI k) 12 := vp_in_nI (by omega) (by decide)
    have hw : mcw bd (nI k) := ⟨hv, by rw [e1]; exact hok.2 k (by omega)⟩
    have hm : ∀ z, mu_X5_isSound_8 rw co cl fi st th bd lf hf of gf tf kf z (nI k + 1) hf' < mu_X5_isSound_8 rw co cl fi st th bd lf hf of gf tf kf (b2i b) (nI k) hf' := fun z => hmu _ (by omega) (by omega)
    refine ⟨fun c2 => ?_, fun c2 => ?_⟩
    · rw [b2i_eq0] at c2
      subst c2
      exact ⟨b2i_narrow _, by rw [← he]; rfl, ef⟩
    · rw [b2i_ne0] at c2
      subst c2
      simp only [msF, ek, Bool.true_and] at he
      have go : ∀ b', b' = mcond rw co bd hf' (nI k) → (b' && msF rw co bd hf' (mN rw co) i) = mso rw co bd hf := fun b' hb => by rw [hb]; exact he
      refine ⟨hv, fun c3 => ?_, fun c3 => ⟨hw, hv, fun c4 => ?_, fun c4 => ⟨hw, hv, fun c5 => ?_, fun c5 => ?_⟩⟩⟩
      · rintro y rfl
        exact ⟨⟨hok, ef, k + 1, i, true, by omega, nI_1 k, rfl, go _ (by simp [mcond, c3])⟩, hm _⟩
      · rintro y rfl
        exact ⟨⟨hok, ef, k + 1, i, false, by omega, nI_1 k, rfl, go _ (by simp [mcond, c3, Int32.not_le.mpr c4])⟩, hm _⟩
      · rintro y rfl
        exact ⟨⟨hok, ef, k + 1, i, false, by omega, nI_1 k, rfl, go _ (by simp [mcond, c3, Int32.not_le.mpr c5])⟩, hm _⟩
      · rintro y rfl
        exact ⟨⟨hok, ef, k + 1, i, true, by omega, nI_1 k, rfl, go _ (by simp [mcond, c3, Int32.not_lt.mp c5, Int32.not_lt.mp c4])⟩, hm _⟩
theorem pe_X5_isSound (rw : Int32) (co : Int32) (cl : Int32) (fi : Int32) (st : Int64) (th : Int32) (bd : Nat → Int32) (lf : Nat → Int32) (hf : Nat → Int32) (of : Nat → Int32) (gf : Nat → Int32) (tf : Nat → Int32) (kf : Nat → Int32) (hpre : mok rw co bd) : ve_X5_isSound rw co cl fi st th bd lf hf of gf tf kf (fun (r : Int32) (u : (Nat → Int32)) => r = b2i (mso rw co bd hf) ∧ u = (mlk rw co bd hf)) (I_X5_isSound_8 rw co cl fi st th bd lf hf of gf tf kf) := ⟨hpre, hpre, rfl, 0, mN rw co, true, Nat.zero_add _, rfl, rfl, by rw [Bool.true_and]; rfl⟩
theorem pe_X5_fits (rw : Int32) (co : Int32) (cl : Int32) (fi : Int32) (st : Int64) (th : Int32) (bd : Nat → Int32) (lf : Nat → Int32) (hf : Nat → Int32) (of : Nat → Int32) (gf : Nat → Int32) (tf : Nat → Int32) (kf : Nat → Int32) (p1 : Int32) (p2 : Int32) (hpre : mok rw co bd ∧ vp_in p1 12 ∧ vp_in p2 10) : ve_X5_fits rw co cl fi st th bd lf hf of gf tf kf p1 p2 (fun (r : Int32) (u : (Nat → Int32) × (Nat → Int32)) => r = b2i (mft rw co bd hf p1 p2) ∧ u = (bd, mfth rw co bd hf p1))  := by
  obtain ⟨hok, hc, hn⟩ := hpre
  refine ⟨hc, fun c => ⟨hc, mok_upd hok hn, ?_⟩, fun c => ⟨by simp [mft, c, b2i], by simp [mfth, c]⟩⟩
  rintro y rfl
  rw [upd_back c, mlk_mlk]
  exact ⟨hc, hok, b2i_narrow _, by simp [mft, c], by simp [mfth, c]⟩
