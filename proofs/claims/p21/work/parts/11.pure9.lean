/-! FieldFiller's own searches -/
def zsbn (ac : Int32) (fnf : Nat → Int32) (ds : Int64) : Nat → Int32 := fun k => if k < zN ac then znb (mdst ds (k + 1)) 9 + 1 else fnf k
def zsbf (cc ac fc lc : Int32) (f fnf : Nat → Int32) (ds : Int64) : Nat → Int32 := (zsf cc ac fc lc f (zsbn ac fnf ds) 0).getD f
def zlg (n : Int32) : Bool := !decide (n < 0) && !decide (12 ≤ n)
def ztk (cc ac fc lc : Int32) (f : Nat → Int32) (c : Int32) : Nat → Int32 := if zni f c 9 = 0 then f else if zcs cc ac fc lc (zwr f c 0) 0 2 = 1 then zwr f c 0 else zwr (zwr f c 0) c (zni f c 9)
def zonG (cc ac fc lc : Int32) (f : Nat → Int32) (c : Int32) : Nat → Int32 → Int32 | 0, o => o | j + 1, o => if zct cc ac fc lc f c (nI (9 - j)) then (if o = 0 then zonG cc ac fc lc f c j (nI (9 - j)) else 0) else zonG cc ac fc lc f c j o
def zonr (cc ac fc lc : Int32) (f : Nat → Int32) (c : Int32) : Int32 := zonG cc ac fc lc f c 9 0
def zf1 (cc ac fc lc : Int32) (f : Nat → Int32) (N : Nat) : Nat → Int32 | 0 => -1 | j + 1 => if zonr cc ac fc lc f (nI (N - (j + 1))) = 0 then zf1 cc ac fc lc f N j else 10 * nI (N - (j + 1)) + zonr cc ac fc lc f (nI (N - (j + 1)))
def zlwF (cc ac fc lc : Int32) (f : Nat → Int32) (all n lim : Int32) : Nat → Int32 | 0 => lim | j + 1 => if zhas all (nI (lim.toNatClampNeg - (j + 1))) && zct cc ac fc lc f (nI (lim.toNatClampNeg - (j + 1))) n then nI (lim.toNatClampNeg - (j + 1)) else zlwF cc ac fc lc f all n lim j
def zlw (cc ac fc lc : Int32) (f : Nat → Int32) (c lim : Int32) (swf : Nat → Int32) : Int32 := zlwF cc ac fc lc f (zli cc ac fc lc f c swf).2.1 (zni f c 9) lim lim.toNatClampNeg
def zf2L (cc ac fc lc : Int32) (f : Nat → Int32) (N : Nat) : Nat → Int32 → Int32 → Int32 → Int32 | 0, x1, x2, _ => if x2 = 0 then -1 else 10 * x1 + x2 | j + 1, x1, x2, x3 => if zhas x3 (nI (N - (j + 1))) then zf2L cc ac fc lc f N j x1 x2 x3 else if x1 ≤ zlw cc ac fc lc f (nI (N - (j + 1))) x1 (fun _ => 0) then zf2L cc ac fc lc f N j x1 x2 (x3 ||| zfo cc ac fc lc f (nI (N - (j + 1)))) else zf2L cc ac fc lc f N j (zlw cc ac fc lc f (nI (N - (j + 1))) x1 (fun _ => 0)) (zni f (nI (N - (j + 1))) 9) (x3 ||| zfo cc ac fc lc f (nI (N - (j + 1))))
def zf2 (cc ac fc lc : Int32) (f : Nat → Int32) : Int32 := zf2L cc ac fc lc f (zN ac) (zN ac) (bc ac) 0 (f 0)
def zf3c (cc ac fc lc : Int32) (f : Nat → Int32) (c : Int32) : Bool := zhas (zhi cc ac fc lc f) c && (decide (zbs cc ac fc lc (zbit c) &&& f 0 = 0) && zct cc ac fc lc f c 1)
def zf3 (cc ac fc lc : Int32) (f : Nat → Int32) (N : Nat) : Nat → Int32 | 0 => -1 | j + 1 => if zf3c cc ac fc lc f (nI (N - (j + 1))) then 10 * nI (N - (j + 1)) + 1 else zf3 cc ac fc lc f N j
def vs_X3_solveByDraws_2 (fnf : Nat → Int32) (cc : Int32) (ac : Int32) (fc : Int32) (lc : Int32) (f : Nat → Int32) (ds : Int64) (P : ((Nat → Int32) × (Nat → Int32) × Int64) → Prop) (J2 : Int32 → (Nat → Int32) → (Nat → Int32) → Int64 → Prop) (x3 : Int32) (f' : Nat → Int32) (fnf' : Nat → Int32) (ds' : Int64) : Prop := ((bc ac) ≤ x3 → (zrq ac f' fnf' 0 13) ∧ P ((zsf cc ac fc lc f' fnf' 0).getD f', fnf', ds')) ∧ (¬ (bc ac) ≤ x3 → (12 ≤ x3 → (zrq ac f' fnf' 0 13) ∧ P ((zsf cc ac fc lc f' fnf' 0).getD f', fnf', ds')) ∧ (¬ 12 ≤ x3 → vp_in x3 12 ∧ ∀ y_6 : Int32, y_6 = x3 + 1 → (J2 y_6 f' (upd fnf' x3.toNatClampNeg ((znb (mdr ds') 9) + 1)) (mdr ds'))))
def ve_X3_solveByDraws (fnf : Nat → Int32) (cc : Int32) (ac : Int32) (fc : Int32) (lc : Int32) (f : Nat → Int32) (ds : Int64) (P : ((Nat → Int32) × (Nat → Int32) × Int64) → Prop) (J2 : Int32 → (Nat → Int32) → (Nat → Int32) → Int64 → Prop) : Prop := (J2 0 f fnf ds)
def ve_X4_isSide (p0 : Int32) (P : Int32 → Unit → Prop)  : Prop := (p0 < 2 → P 0 ()) ∧ (¬ p0 < 2 → (4 < p0 → P 0 ()) ∧ (¬ 4 < p0 → P 1 ()))
def ve_X4_showCluesAlone (lgd : Int32) (ccc : Int32) (cac : Int32) (cfc : Int32) (clc : Int32) (cf : Nat → Int32) (bcc : Int32) (bac : Int32) (bfc : Int32) (blc : Int32) (bf : Nat → Int32) (lgf : Nat → Int32) (cnt : Int32) (call : Int32) (swf : Nat → Int32) (fnf : Nat → Int32) (P : (Int32 × Int32 × Int32 × Int32 × (Nat → Int32) × Int32) → Prop)  : Prop := P (ccc, cac, cfc, clc, zcp bf cf, 0)
def ve_X4_putAndLog (lgd : Int32) (ccc : Int32) (cac : Int32) (cfc : Int32) (clc : Int32) (cf : Nat → Int32) (bcc : Int32) (bac : Int32) (bfc : Int32) (blc : Int32) (bf : Nat → Int32) (lgf : Nat → Int32) (cnt : Int32) (call : Int32) (swf : Nat → Int32) (fnf : Nat → Int32) (p1 : Int32) (p2 : Int32) (P : ((Nat → Int32) × (Nat → Int32) × Int32) → Prop)  : Prop := (lgd < 0 → P (bf, lgf, lgd)) ∧ (¬ lgd < 0 → (12 ≤ lgd → P (bf, lgf, lgd)) ∧ (¬ 12 ≤ lgd → vp_in lgd 12 ∧ P (zwr bf p1 p2, upd lgf lgd.toNatClampNeg p1, lgd + 1)))
def ve_X4_takeIfNotNeeded (lgd : Int32) (ccc : Int32) (cac : Int32) (cfc : Int32) (clc : Int32) (cf : Nat → Int32) (bcc : Int32) (bac : Int32) (bfc : Int32) (blc : Int32) (bf : Nat → Int32) (lgf : Nat → Int32) (cnt : Int32) (call : Int32) (swf : Nat → Int32) (fnf : Nat → Int32) (p1 : Int32) (P : ((Nat → Int32)) → Prop)  : Prop := ∀ y_1 : Int32, y_1 = zni cf p1 9 → (y_1 = 0 → P (cf)) ∧ (¬ y_1 = 0 → (zrp cac (zwr cf p1 0) 0 2 13) ∧ ((zcs ccc cac cfc clc (zwr cf p1 0) 0 2) = 1 → P ((zwr cf p1 0))) ∧ (¬ (zcs ccc cac cfc clc (zwr cf p1 0) 0 2) = 1 → P (zwr (zwr cf p1 0) p1 y_1)))
def vs_X4_onlyNumberFor_4 (lgd : Int32) (ccc : Int32) (cac : Int32) (cfc : Int32) (clc : Int32) (cf : Nat → Int32) (bcc : Int32) (bac : Int32) (bfc : Int32) (blc : Int32) (bf : Nat → Int32) (lgf : Nat → Int32) (cnt : Int32) (call : Int32) (swf : Nat → Int32) (fnf : Nat → Int32) (p1 : Int32) (P : Int32 → ((Nat → Int32)) → Prop) (J4 : Int32 → Int32 → (Nat → Int32) → Prop) (x2 : Int32) (x3 : Int32) (bf' : Nat → Int32) : Prop := (9 < x3 → P x2 (bf')) ∧ (¬ 9 < x3 → ((b2i (zct bcc bac bfc blc bf' p1 x3)) = 0 → ∀ y_3 : Int32, y_3 = x3 + 1 → (J4 x2 y_3 (zctf bf' p1 x3))) ∧ (¬ (b2i (zct bcc bac bfc blc bf' p1 x3)) = 0 → (x2 = 0 → ∀ y_5 : Int32, y_5 = x3 + 1 → (J4 x3 y_5 (zctf bf' p1 x3))) ∧ (¬ x2 = 0 → P 0 (zctf bf' p1 x3))))
def ve_X4_onlyNumberFor (lgd : Int32) (ccc : Int32) (cac : Int32) (cfc : Int32) (clc : Int32) (cf : Nat → Int32) (bcc : Int32) (bac : Int32) (bfc : Int32) (blc : Int32) (bf : Nat → Int32) (lgf : Nat → Int32) (cnt : Int32) (call : Int32) (swf : Nat → Int32) (fnf : Nat → Int32) (p1 : Int32) (P : Int32 → ((Nat → Int32)) → Prop) (J4 : Int32 → Int32 → (Nat → Int32) → Prop) : Prop := (J4 0 1 bf)
def vs_X4_findCellOfOneNumber_2 (lgd : Int32) (ccc : Int32) (cac : Int32) (cfc : Int32) (clc : Int32) (cf : Nat → Int32) (bcc : Int32) (bac : Int32) (bfc : Int32) (blc : Int32) (bf : Nat → Int32) (lgf : Nat → Int32) (cnt : Int32) (call : Int32) (swf : Nat → Int32) (fnf : Nat → Int32) (P : Int32 → ((Nat → Int32)) → Prop) (J2 : Int32 → (Nat → Int32) → Prop) (x1 : Int32) (bf' : Nat → Int32) : Prop := ((bc bac) ≤ x1 → P (-1) (bf')) ∧ (¬ (bc bac) ≤ x1 → (zval bf') ∧ ∀ y_3 : Int32, y_3 = zonr bcc bac bfc blc bf' x1 → (y_3 = 0 → ∀ y_5 : Int32, y_5 = x1 + 1 → (J2 y_5 bf')) ∧ (¬ y_3 = 0 → P ((10 * x1) + y_3) (bf')))
def ve_X4_findCellOfOneNumber (lgd : Int32) (ccc : Int32) (cac : Int32) (cfc : Int32) (clc : Int32) (cf : Nat → Int32) (bcc : Int32) (bac : Int32) (bfc : Int32) (blc : Int32) (bf : Nat → Int32) (lgf : Nat → Int32) (cnt : Int32) (call : Int32) (swf : Nat → Int32) (fnf : Nat → Int32) (P : Int32 → ((Nat → Int32)) → Prop) (J2 : Int32 → (Nat → Int32) → Prop) : Prop := (J2 0 bf)
def vs_X4_lowestCellOfAllShapes_24 (lgd : Int32) (ccc : Int32) (cac : Int32) (cfc : Int32) (clc : Int32) (cf : Nat → Int32) (bcc : Int32) (bac : Int32) (bfc : Int32) (blc : Int32) (bf : Nat → Int32) (lgf : Nat → Int32) (cnt : Int32) (call : Int32) (swf : Nat → Int32) (fnf : Nat → Int32) (p1 : Int32) (p2 : Int32) (P : Int32 → ((Nat → Int32) × Int32 × Int32 × (Nat → Int32)) → Prop) (J24 : Int32 → Int32 → (Nat → Int32) → Int32 → Int32 → (Nat → Int32) → Prop) (x3 : Int32) (x4 : Int32) (bf' : Nat → Int32) (cnt' : Int32) (call' : Int32) (swf' : Nat → Int32) : Prop := (p2 ≤ x4 → P p2 (bf', cnt', call', swf')) ∧ (¬ p2 ≤ x4 → ((b2i (zhas call' x4)) = 0 → ∀ y_3 : Int32, y_3 = x4 + 1 → (J24 x3 y_3 bf' cnt' call' swf')) ∧ (¬ (b2i (zhas call' x4)) = 0 → ((b2i (zct bcc bac bfc blc bf' x4 x3)) = 0 → ∀ y_5 : Int32, y_5 = x4 + 1 → (J24 x3 y_5 (zctf bf' x4 x3) cnt' call' swf')) ∧ (¬ (b2i (zct bcc bac bfc blc bf' x4 x3)) = 0 → P x4 (zctf bf' x4 x3, cnt', call', swf'))))
def ve_X4_lowestCellOfAllShapes (lgd : Int32) (ccc : Int32) (cac : Int32) (cfc : Int32) (clc : Int32) (cf : Nat → Int32) (bcc : Int32) (bac : Int32) (bfc : Int32) (blc : Int32) (bf : Nat → Int32) (lgf : Nat → Int32) (cnt : Int32) (call : Int32) (swf : Nat → Int32) (fnf : Nat → Int32) (p1 : Int32) (p2 : Int32) (P : Int32 → ((Nat → Int32) × Int32 × Int32 × (Nat → Int32)) → Prop) (J24 : Int32 → Int32 → (Nat → Int32) → Int32 → Int32 → (Nat → Int32) → Prop) : Prop := ∀ y_6 : Int32, y_6 = zni bf p1 9 → (J24 y_6 0 bf ((zli bcc bac bfc blc bf p1 swf).1) ((zli bcc bac bfc blc bf p1 swf).2.1) ((zli bcc bac bfc blc bf p1 swf).2.2))
def vs_X4_findCellOfAllShapes_21 (lgd : Int32) (ccc : Int32) (cac : Int32) (cfc : Int32) (clc : Int32) (cf : Nat → Int32) (bcc : Int32) (bac : Int32) (bfc : Int32) (blc : Int32) (bf : Nat → Int32) (lgf : Nat → Int32) (cnt : Int32) (call : Int32) (swf : Nat → Int32) (fnf : Nat → Int32) (P : Int32 → ((Nat → Int32) × Int32 × Int32 × (Nat → Int32)) → Prop) (J21 : Int32 → Int32 → Int32 → Int32 → (Nat → Int32) → Int32 → Int32 → (Nat → Int32) → Prop) (x1 : Int32) (x2 : Int32) (x3 : Int32) (x4 : Int32) (bf' : Nat → Int32) (cnt' : Int32) (call' : Int32) (swf' : Nat → Int32) : Prop := ((bc bac) ≤ x4 → (x2 = 0 → P (-1) (bf', cnt', call', swf')) ∧ (¬ x2 = 0 → P ((10 * x1) + x2) (bf', cnt', call', swf'))) ∧ (¬ (bc bac) ≤ x4 → ((b2i (zhas x3 x4)) = 0 → ∀ y_5 : Int32, y_5 = x3 ||| (zfo bcc bac bfc blc bf' x4) → (zval bf') ∧ ∀ y_7 : Int32, y_7 = zlw bcc bac bfc blc bf' x4 x1 swf' → (x1 ≤ y_7 → ∀ y_9 : Int32, y_9 = x4 + 1 → (J21 x1 x2 y_5 y_9 bf' ((zli bcc bac bfc blc bf' x4 swf').1) ((zli bcc bac bfc blc bf' x4 swf').2.1) ((zli bcc bac bfc blc bf' x4 swf').2.2))) ∧ (¬ x1 ≤ y_7 → ∀ y_10 : Int32, y_10 = zni bf' x4 9 → ∀ y_11 : Int32, y_11 = x4 + 1 → (J21 y_7 y_10 y_5 y_11 bf' ((zli bcc bac bfc blc bf' x4 swf').1) ((zli bcc bac bfc blc bf' x4 swf').2.1) ((zli bcc bac bfc blc bf' x4 swf').2.2)))) ∧ (¬ (b2i (zhas x3 x4)) = 0 → ∀ y_4 : Int32, y_4 = x4 + 1 → (J21 x1 x2 x3 y_4 bf' cnt' call' swf')))
def ve_X4_findCellOfAllShapes (lgd : Int32) (ccc : Int32) (cac : Int32) (cfc : Int32) (clc : Int32) (cf : Nat → Int32) (bcc : Int32) (bac : Int32) (bfc : Int32) (blc : Int32) (bf : Nat → Int32) (lgf : Nat → Int32) (cnt : Int32) (call : Int32) (swf : Nat → Int32) (fnf : Nat → Int32) (P : Int32 → ((Nat → Int32) × Int32 × Int32 × (Nat → Int32)) → Prop) (J21 : Int32 → Int32 → Int32 → Int32 → (Nat → Int32) → Int32 → Int32 → (Nat → Int32) → Prop) : Prop := ∀ y_12 : Int32, y_12 = bc bac → ∀ y_13 : Int32, y_13 = bf 0 → (J21 y_12 0 y_13 0 bf cnt call swf)
def vs_X4_findHiddenOne_10 (lgd : Int32) (ccc : Int32) (cac : Int32) (cfc : Int32) (clc : Int32) (cf : Nat → Int32) (bcc : Int32) (bac : Int32) (bfc : Int32) (blc : Int32) (bf : Nat → Int32) (lgf : Nat → Int32) (cnt : Int32) (call : Int32) (swf : Nat → Int32) (fnf : Nat → Int32) (P : Int32 → ((Nat → Int32)) → Prop) (J10 : Int32 → Int32 → (Nat → Int32) → Prop) (x1 : Int32) (x2 : Int32) (bf' : Nat → Int32) : Prop := ((bc bac) ≤ x2 → P (-1) (bf')) ∧ (¬ (bc bac) ≤ x2 → ((b2i (zhas x1 x2)) = 0 → ∀ y_3 : Int32, y_3 = x2 + 1 → (J10 x1 y_3 bf')) ∧ (¬ (b2i (zhas x1 x2)) = 0 → ((b2i (!decide (zbs bcc bac bfc blc (zbit x2) &&& bf' 0 = 0))) = 0 → ((b2i (zct bcc bac bfc blc bf' x2 1)) = 0 → ∀ y_7 : Int32, y_7 = x2 + 1 → (J10 x1 y_7 (zctf bf' x2 1))) ∧ (¬ (b2i (zct bcc bac bfc blc bf' x2 1)) = 0 → P ((10 * x2) + 1) (zctf bf' x2 1))) ∧ (¬ (b2i (!decide (zbs bcc bac bfc blc (zbit x2) &&& bf' 0 = 0))) = 0 → ∀ y_5 : Int32, y_5 = x2 + 1 → (J10 x1 y_5 bf'))))
def ve_X4_findHiddenOne (lgd : Int32) (ccc : Int32) (cac : Int32) (cfc : Int32) (clc : Int32) (cf : Nat → Int32) (bcc : Int32) (bac : Int32) (bfc : Int32) (blc : Int32) (bf : Nat → Int32) (lgf : Nat → Int32) (cnt : Int32) (call : Int32) (swf : Nat → Int32) (fnf : Nat → Int32) (P : Int32 → ((Nat → Int32)) → Prop) (J10 : Int32 → Int32 → (Nat → Int32) → Prop) : Prop := ∀ y_8 : Int32, y_8 = zhi bcc bac bfc blc bf → (J10 y_8 0 bf)
def ve_X4_filled (lgd : Int32) (ccc : Int32) (cac : Int32) (cfc : Int32) (clc : Int32) (cf : Nat → Int32) (bcc : Int32) (bac : Int32) (bfc : Int32) (blc : Int32) (bf : Nat → Int32) (lgf : Nat → Int32) (cnt : Int32) (call : Int32) (swf : Nat → Int32) (fnf : Nat → Int32) (P : Int32 → Unit → Prop)  : Prop := P lgd ()
def ve_X4_area (lgd : Int32) (ccc : Int32) (cac : Int32) (cfc : Int32) (clc : Int32) (cf : Nat → Int32) (bcc : Int32) (bac : Int32) (bfc : Int32) (blc : Int32) (bf : Nat → Int32) (lgf : Nat → Int32) (cnt : Int32) (call : Int32) (swf : Nat → Int32) (fnf : Nat → Int32) (P : Int32 → Unit → Prop)  : Prop := P (bc bac) ()
def ve_X4_isSolved (lgd : Int32) (ccc : Int32) (cac : Int32) (cfc : Int32) (clc : Int32) (cf : Nat → Int32) (bcc : Int32) (bac : Int32) (bfc : Int32) (blc : Int32) (bf : Nat → Int32) (lgf : Nat → Int32) (cnt : Int32) (call : Int32) (swf : Nat → Int32) (fnf : Nat → Int32) (P : Int32 → Unit → Prop)  : Prop := ((bf 0) = 0 → ((b2i (zso bcc bac bfc blc bf 9)) = 0 → P 0 ()) ∧ (¬ (b2i (zso bcc bac bfc blc bf 9)) = 0 → P 1 ())) ∧ (¬ (bf 0) = 0 → P 0 ())
def I_X3_solveByDraws_2 (fnf : Nat → Int32) (cc : Int32) (ac : Int32) (fc : Int32) (lc : Int32) (f : Nat → Int32) (ds : Int64) : Int32 → (Nat → Int32) → (Nat → Int32) → Int64 → Prop := fun x3 f' fnf' ds' => (zval f ∧ zN ac ≤ 12 ∧ bc ac = nI (zN ac)) ∧ f' = f ∧ ∃ k : Nat, k ≤ zN ac ∧ x3 = nI k ∧ ds' = mdst ds k ∧ fnf' = fun i => if i < k then zsbn ac fnf ds i else fnf i
def mu_X3_solveByDraws_2 (fnf : Nat → Int32) (cc : Int32) (ac : Int32) (fc : Int32) (lc : Int32) (f : Nat → Int32) (ds : Int64) : Int32 → (Nat → Int32) → (Nat → Int32) → Int64 → Nat := fun x3 f' fnf' ds' => zN ac - x3.toNatClampNeg
theorem pl_X3_solveByDraws_2 (fnf : Nat → Int32) (cc : Int32) (ac : Int32) (fc : Int32) (lc : Int32) (f : Nat → Int32) (ds : Int64) (hpre : zval f ∧ zN ac ≤ 12 ∧ bc ac = nI (zN ac)) : ∀ (x3 : Int32) (f' : Nat → Int32) (fnf' : Nat → Int32) (ds' : Int64), I_X3_solveByDraws_2 fnf cc ac fc lc f ds x3 f' fnf' ds' → vs_X3_solveByDraws_2 fnf cc ac fc lc f ds (fun (u : (Nat → Int32) × (Nat → Int32) × Int64) => u = (zsbf cc ac fc lc f fnf ds, zsbn ac fnf ds, mdst ds (zN ac))) (fun (x39 : Int32) (f9 : Nat → Int32) (fnf9 : Nat → Int32) (ds9 : Int64) => I_X3_solveByDraws_2 fnf cc ac fc lc f ds x39 f9 fnf9 ds9 ∧ mu_X3_solveByDraws_2 fnf cc ac fc lc f ds x39 f9 fnf9 ds9 < mu_X3_solveByDraws_2 fnf cc ac fc lc f ds x3 f' fnf' ds') x3 f' fnf' ds' := by
  rintro x3 f' fnf' ds' ⟨hp, rfl, k, hk, rfl, rfl, ef⟩
  obtain ⟨hv, hN, eN⟩ := id hp
  have hq : ∀ g, zrq ac f' g 0 13 := fun g => ⟨hv, ⟨hN, eN⟩, 0, rfl, Nat.zero_le _, by omega⟩
  unfold vs_X3_solveByDraws_2
  rw [eN]
  refine ⟨fun c => ⟨hq _, ?_⟩, fun c => ⟨fun c2 => ?_, fun c2 => ⟨?_, ?_⟩⟩⟩
  · have c := k_le (by omega) (by omega) c
    obtain rfl : k = zN ac := by omega
    have e2 : fnf' = zsbn ac fnf ds := upd_all ef (fun i hi => by simp [zsbn, hi])
    rw [e2]; rfl
  · have c := k_nle (by omega) (by omega) c
    have c2 := k_le (a := 12) (by decide) (by omega) c2
    omega
  · have c := k_nle (by omega) (by omega) c
    exact vp_in_nI (by omega) (by decide)
  · have c := k_nle (by omega) (by omega) c
    rintro y rfl
    refine ⟨⟨hp, rfl, k + 1, c, nI_1 k, rfl, ?_⟩, hmu _ c (by omega)⟩
    rw [nI_clamp (by omega)]
    exact upd_step ef (by simp [zsbn, c, mdst])
theorem pe_X3_solveByDraws (fnf : Nat → Int32) (cc : Int32) (ac : Int32) (fc : Int32) (lc : Int32) (f : Nat → Int32) (ds : Int64) (hpre : zval f ∧ zN ac ≤ 12 ∧ bc ac = nI (zN ac)) : ve_X3_solveByDraws fnf cc ac fc lc f ds (fun (u : (Nat → Int32) × (Nat → Int32) × Int64) => u = (zsbf cc ac fc lc f fnf ds, zsbn ac fnf ds, mdst ds (zN ac))) (I_X3_solveByDraws_2 fnf cc ac fc lc f ds) := ⟨hpre, rfl, 0, Nat.zero_le _, rfl, rfl, by funext i; simp⟩
theorem pe_X4_isSide (p0 : Int32) : ve_X4_isSide p0 (fun (r : Int32) (u : Unit) => r = b2i (min3 p0 2 4))  := by
  refine ⟨fun c => ?_, fun c => ⟨fun c2 => ?_, fun c2 => ?_⟩⟩
  · show (0 : Int32) = b2i (min3 p0 2 4)
    unfold min3; rw [decide_eq_false (Int32.not_le.mpr c)]; rfl
  · show (0 : Int32) = b2i (min3 p0 2 4)
    unfold min3; rw [decide_eq_false (Int32.not_le.mpr c2), Bool.and_false]; rfl
  · show (1 : Int32) = b2i (min3 p0 2 4)
    unfold min3; rw [decide_eq_true (Int32.not_lt.mp c), decide_eq_true (Int32.not_lt.mp c2)]; rfl
theorem pe_X4_showCluesAlone (lgd : Int32) (ccc : Int32) (cac : Int32) (cfc : Int32) (clc : Int32) (cf : Nat → Int32) (bcc : Int32) (bac : Int32) (bfc : Int32) (blc : Int32) (bf : Nat → Int32) (lgf : Nat → Int32) (cnt : Int32) (call : Int32) (swf : Nat → Int32) (fnf : Nat → Int32) : ve_X4_showCluesAlone lgd ccc cac cfc clc cf bcc bac bfc blc bf lgf cnt call swf fnf (fun (u : Int32 × Int32 × Int32 × Int32 × (Nat → Int32) × Int32) => u = (ccc, cac, cfc, clc, zcp bf cf, 0))  := rfl
theorem pe_X4_putAndLog (lgd : Int32) (ccc : Int32) (cac : Int32) (cfc : Int32) (clc : Int32) (cf : Nat → Int32) (bcc : Int32) (bac : Int32) (bfc : Int32) (blc : Int32) (bf : Nat → Int32) (lgf : Nat → Int32) (cnt : Int32) (call : Int32) (swf : Nat → Int32) (fnf : Nat → Int32) (p1 : Int32) (p2 : Int32) : ve_X4_putAndLog lgd ccc cac cfc clc cf bcc bac bfc blc bf lgf cnt call swf fnf p1 p2 (fun (u : (Nat → Int32) × (Nat → Int32) × Int32) => u = (if zlg lgd then zwr bf p1 p2 else bf, if zlg lgd then upd lgf lgd.toNatClampNeg p1 else lgf, if zlg lgd then lgd + 1 else lgd))  := by
  refine ⟨fun c => ?_, fun c => ⟨fun c2 => ?_, fun c2 => ⟨?_, ?_⟩⟩⟩
  · have h : zlg lgd = false := by unfold zlg; rw [decide_eq_true c]; rfl
    simp [h]
  · have h : zlg lgd = false := by unfold zlg; rw [decide_eq_true c2, Bool.not_true, Bool.and_false]
    simp [h]
  · rw [vp_in_iff]; rw [fx_lt] at c; rw [fx_le] at c2; have h0 : (0 : Int32).toInt = 0 := by decide
    have h1 : (12 : Int32).toInt = 12 := by decide
    omega
  · have h : zlg lgd = true := by unfold zlg; rw [decide_eq_false c, decide_eq_false c2]; rfl
    simp [h]
theorem pe_X4_takeIfNotNeeded (lgd : Int32) (ccc : Int32) (cac : Int32) (cfc : Int32) (clc : Int32) (cf : Nat → Int32) (bcc : Int32) (bac : Int32) (bfc : Int32) (blc : Int32) (bf : Nat → Int32) (lgf : Nat → Int32) (cnt : Int32) (call : Int32) (swf : Nat → Int32) (fnf : Nat → Int32) (p1 : Int32) (hpre : zval cf ∧ (zN cac ≤ 12 ∧ bc cac = nI (zN cac))) : ve_X4_takeIfNotNeeded lgd ccc cac cfc clc cf bcc bac bfc blc bf lgf cnt call swf fnf p1 (fun (u : (Nat → Int32)) => u = (ztk ccc cac cfc clc cf p1))  := by
  obtain ⟨hv, hN, eN⟩ := hpre
  rintro y rfl
  refine ⟨fun c => ?_, fun c => ⟨⟨zval_zwr hv _ _, ⟨hN, eN⟩, 0, 2, rfl, Nat.zero_le _, by omega, rfl, by decide, by decide⟩, fun c2 => ?_, fun c2 => ?_⟩⟩
  · show cf = ztk _ _ _ _ _ _
    unfold ztk; rw [if_pos c]
  · show _ = ztk _ _ _ _ _ _
    unfold ztk; rw [if_neg c, if_pos c2]
  · show _ = ztk _ _ _ _ _ _
    unfold ztk; rw [if_neg c, if_neg c2]
def I_X4_onlyNumberFor_4 (lgd : Int32) (ccc : Int32) (cac : Int32) (cfc : Int32) (clc : Int32) (cf : Nat → Int32) (bcc : Int32) (bac : Int32) (bfc : Int32) (blc : Int32) (bf : Nat → Int32) (lgf : Nat → Int32) (cnt : Int32) (call : Int32) (swf : Nat → Int32) (fnf : Nat → Int32) (p1 : Int32) : Int32 → Int32 → (Nat → Int32) → Prop := fun x2 x3 bf' => bf' = bf ∧ ∃ k j : Nat, 1 ≤ k ∧ k + j = 10 ∧ x3 = nI k ∧ zonG bcc bac bfc blc bf p1 j x2 = zonr bcc bac bfc blc bf p1
def mu_X4_onlyNumberFor_4 (lgd : Int32) (ccc : Int32) (cac : Int32) (cfc : Int32) (clc : Int32) (cf : Nat → Int32) (bcc : Int32) (bac : Int32) (bfc : Int32) (blc : Int32) (bf : Nat → Int32) (lgf : Nat → Int32) (cnt : Int32) (call : Int32) (swf : Nat → Int32) (fnf : Nat → Int32) (p1 : Int32) : Int32 → Int32 → (Nat → Int32) → Nat := fun x2 x3 bf' => 10 - x3.toNatClampNeg
theorem pl_X4_onlyNumberFor_4 (lgd : Int32) (ccc : Int32) (cac : Int32) (cfc : Int32) (clc : Int32) (cf : Nat → Int32) (bcc : Int32) (bac : Int32) (bfc : Int32) (blc : Int32) (bf : Nat → Int32) (lgf : Nat → Int32) (cnt : Int32) (call : Int32) (swf : Nat → Int32) (fnf : Nat → Int32) (p1 : Int32) (hpre : zval bf) : ∀ (x2 : Int32) (x3 : Int32) (bf' : Nat → Int32), I_X4_onlyNumberFor_4 lgd ccc cac cfc clc cf bcc bac bfc blc bf lgf cnt call swf fnf p1 x2 x3 bf' → vs_X4_onlyNumberFor_4 lgd ccc cac cfc clc cf bcc bac bfc blc bf lgf cnt call swf fnf p1 (fun (r : Int32) (u : (Nat → Int32)) => r = zonr bcc bac bfc blc bf p1 ∧ u = (bf)) (fun (x29 : Int32) (x39 : Int32) (bf9 : Nat → Int32) => I_X4_onlyNumberFor_4 lgd ccc cac cfc clc cf bcc bac bfc blc bf lgf cnt call swf fnf p1 x29 x39 bf9 ∧ mu_X4_onlyNumberFor_4 lgd ccc cac cfc clc cf bcc bac bfc blc bf lgf cnt call swf fnf p1 x29 x39 bf9 < mu_X4_onlyNumberFor_4 lgd ccc cac cfc clc cf bcc bac bfc blc bf lgf cnt call swf fnf p1 x2 x3 bf') x2 x3 bf' := by
  rintro x2 x3 bf' ⟨rfl, k, j, hk, hkj, rfl, he⟩
  refine ⟨fun c => ?_, fun c => ?_⟩
  · have c := k_lt (a := 9) (by decide) (by omega) c
    obtain rfl : j = 0 := by omega
    exact ⟨he, rfl⟩
  · have c := k_nlt (a := 9) (by decide) (by omega) c
    obtain ⟨j, rfl⟩ : ∃ j', j = j' + 1 := ⟨j - 1, by omega⟩
    have e9 : 9 - j = k := by omega
    simp only [zonG, e9] at he
    have hm : 10 - (nI k + 1).toNatClampNeg < 10 - (nI k).toNatClampNeg := hmu 10 (by omega) (by decide)
    rw [zctf_same hpre]
    refine ⟨fun c2 => ?_, fun c2 => ⟨fun c3 => ?_, fun c3 => ?_⟩⟩
    · rintro y rfl
      rw [b2i_eq0] at c2
      rw [c2] at he
      exact ⟨⟨rfl, k + 1, j, by omega, by omega, nI_1 k, he⟩, hm⟩
    · rintro y rfl
      rw [b2i_ne0] at c2
      rw [c2, if_pos rfl, if_pos c3] at he
      exact ⟨⟨rfl, k + 1, j, by omega, by omega, nI_1 k, he⟩, hm⟩
    · rw [b2i_ne0] at c2
      rw [c2, if_pos rfl, if_neg c3] at he
      exact ⟨he, rfl⟩
theorem pe_X4_onlyNumberFor (lgd : Int32) (ccc : Int32) (cac : Int32) (cfc : Int32) (clc : Int32) (cf : Nat → Int32) (bcc : Int32) (bac : Int32) (bfc : Int32) (blc : Int32) (bf : Nat → Int32) (lgf : Nat → Int32) (cnt : Int32) (call : Int32) (swf : Nat → Int32) (fnf : Nat → Int32) (p1 : Int32) (hpre : zval bf) : ve_X4_onlyNumberFor lgd ccc cac cfc clc cf bcc bac bfc blc bf lgf cnt call swf fnf p1 (fun (r : Int32) (u : (Nat → Int32)) => r = zonr bcc bac bfc blc bf p1 ∧ u = (bf)) (I_X4_onlyNumberFor_4 lgd ccc cac cfc clc cf bcc bac bfc blc bf lgf cnt call swf fnf p1) := ⟨rfl, 1, 9, by decide, rfl, rfl, rfl⟩
def I_X4_findCellOfOneNumber_2 (lgd : Int32) (ccc : Int32) (cac : Int32) (cfc : Int32) (clc : Int32) (cf : Nat → Int32) (bcc : Int32) (bac : Int32) (bfc : Int32) (blc : Int32) (bf : Nat → Int32) (lgf : Nat → Int32) (cnt : Int32) (call : Int32) (swf : Nat → Int32) (fnf : Nat → Int32) : Int32 → (Nat → Int32) → Prop := fun x1 bf' => bf' = bf ∧ ∃ k j : Nat, k + j = zN bac ∧ x1 = nI k ∧ zf1 bcc bac bfc blc bf (zN bac) j = zf1 bcc bac bfc blc bf (zN bac) (zN bac)
def mu_X4_findCellOfOneNumber_2 (lgd : Int32) (ccc : Int32) (cac : Int32) (cfc : Int32) (clc : Int32) (cf : Nat → Int32) (bcc : Int32) (bac : Int32) (bfc : Int32) (blc : Int32) (bf : Nat → Int32) (lgf : Nat → Int32) (cnt : Int32) (call : Int32) (swf : Nat → Int32) (fnf : Nat → Int32) : Int32 → (Nat → Int32) → Nat := fun x1 bf' => zN bac - x1.toNatClampNeg
theorem pl_X4_findCellOfOneNumber_2 (lgd : Int32) (ccc : Int32) (cac : Int32) (cfc : Int32) (clc : Int32) (cf : Nat → Int32) (bcc : Int32) (bac : Int32) (bfc : Int32) (blc : Int32) (bf : Nat → Int32) (lgf : Nat → Int32) (cnt : Int32) (call : Int32) (swf : Nat → Int32) (fnf : Nat → Int32) (hpre : zval bf ∧ (zN bac ≤ 12 ∧ bc bac = nI (zN bac))) : ∀ (x1 : Int32) (bf' : Nat → Int32), I_X4_findCellOfOneNumber_2 lgd ccc cac cfc clc cf bcc bac bfc blc bf lgf cnt call swf fnf x1 bf' → vs_X4_findCellOfOneNumber_2 lgd ccc cac cfc clc cf bcc bac bfc blc bf lgf cnt call swf fnf (fun (r : Int32) (u : (Nat → Int32)) => r = zf1 bcc bac bfc blc bf (zN bac) (zN bac) ∧ u = (bf)) (fun (x19 : Int32) (bf9 : Nat → Int32) => I_X4_findCellOfOneNumber_2 lgd ccc cac cfc clc cf bcc bac bfc blc bf lgf cnt call swf fnf x19 bf9 ∧ mu_X4_findCellOfOneNumber_2 lgd ccc cac cfc clc cf bcc bac bfc blc bf lgf cnt call swf fnf x19 bf9 < mu_X4_findCellOfOneNumber_2 lgd ccc cac cfc clc cf bcc bac bfc blc bf lgf cnt call swf fnf x1 bf') x1 bf' := by
  rintro x1 bf' ⟨rfl, k, j, hkj, rfl, he⟩
  obtain ⟨hv, hN, eN⟩ := hpre
  unfold vs_X4_findCellOfOneNumber_2
  rw [eN]
  refine ⟨fun c => ?_, fun c => ⟨hv, ?_⟩⟩
  · have c := k_le (by omega) (by omega) c
    obtain rfl : j = 0 := by omega
    exact ⟨he, rfl⟩
  · have c := k_nle (by omega) (by omega) c
    obtain ⟨j, rfl⟩ : ∃ j', j = j' + 1 := ⟨j - 1, by omega⟩
    have e9 : zN bac - (j + 1) = k := by omega
    simp only [zf1, e9] at he
    rintro y rfl
    refine ⟨fun c2 => ?_, fun c2 => ?_⟩
    · rintro y rfl
      rw [if_pos c2] at he
      exact ⟨⟨rfl, k + 1, j, by omega, nI_1 k, he⟩, hmu _ c (by omega)⟩
    · rw [if_neg c2] at he
      exact ⟨he, rfl⟩
theorem pe_X4_findCellOfOneNumber (lgd : Int32) (ccc : Int32) (cac : Int32) (cfc : Int32) (clc : Int32) (cf : Nat → Int32) (bcc : Int32) (bac : Int32) (bfc : Int32) (blc : Int32) (bf : Nat → Int32) (lgf : Nat → Int32) (cnt : Int32) (call : Int32) (swf : Nat → Int32) (fnf : Nat → Int32) (hpre : zval bf ∧ (zN bac ≤ 12 ∧ bc bac = nI (zN bac))) : ve_X4_findCellOfOneNumber lgd ccc cac cfc clc cf bcc bac bfc blc bf lgf cnt call swf fnf (fun (r : Int32) (u : (Nat → Int32)) => r = zf1 bcc bac bfc blc bf (zN bac) (zN bac) ∧ u = (bf)) (I_X4_findCellOfOneNumber_2 lgd ccc cac cfc clc cf bcc bac bfc blc bf lgf cnt call swf fnf) := ⟨rfl, 0, zN bac, Nat.zero_add _, rfl, rfl⟩
def I_X4_lowestCellOfAllShapes_24 (lgd : Int32) (ccc : Int32) (cac : Int32) (cfc : Int32) (clc : Int32) (cf : Nat → Int32) (bcc : Int32) (bac : Int32) (bfc : Int32) (blc : Int32) (bf : Nat → Int32) (lgf : Nat → Int32) (cnt : Int32) (call : Int32) (swf : Nat → Int32) (fnf : Nat → Int32) (p1 : Int32) (p2 : Int32) : Int32 → Int32 → (Nat → Int32) → Int32 → Int32 → (Nat → Int32) → Prop := fun x3 x4 bf' cnt' call' swf' => bf' = bf ∧ (cnt', call', swf') = zli bcc bac bfc blc bf p1 swf ∧ x3 = zni bf p1 9 ∧ ∃ k j : Nat, k + j = p2.toNatClampNeg ∧ x4 = nI k ∧ zlwF bcc bac bfc blc bf call' x3 p2 j = zlw bcc bac bfc blc bf p1 p2 swf
def mu_X4_lowestCellOfAllShapes_24 (lgd : Int32) (ccc : Int32) (cac : Int32) (cfc : Int32) (clc : Int32) (cf : Nat → Int32) (bcc : Int32) (bac : Int32) (bfc : Int32) (blc : Int32) (bf : Nat → Int32) (lgf : Nat → Int32) (cnt : Int32) (call : Int32) (swf : Nat → Int32) (fnf : Nat → Int32) (p1 : Int32) (p2 : Int32) : Int32 → Int32 → (Nat → Int32) → Int32 → Int32 → (Nat → Int32) → Nat := fun x3 x4 bf' cnt' call' swf' => p2.toNatClampNeg - x4.toNatClampNeg
theorem pl_X4_lowestCellOfAllShapes_24 (lgd : Int32) (ccc : Int32) (cac : Int32) (cfc : Int32) (clc : Int32) (cf : Nat → Int32) (bcc : Int32) (bac : Int32) (bfc : Int32) (blc : Int32) (bf : Nat → Int32) (lgf : Nat → Int32) (cnt : Int32) (call : Int32) (swf : Nat → Int32) (fnf : Nat → Int32) (p1 : Int32) (p2 : Int32) (hpre : zval bf) : ∀ (x3 : Int32) (x4 : Int32) (bf' : Nat → Int32) (cnt' : Int32) (call' : Int32) (swf' : Nat → Int32), I_X4_lowestCellOfAllShapes_24 lgd ccc cac cfc clc cf bcc bac bfc blc bf lgf cnt call swf fnf p1 p2 x3 x4 bf' cnt' call' swf' → vs_X4_lowestCellOfAllShapes_24 lgd ccc cac cfc clc cf bcc bac bfc blc bf lgf cnt call swf fnf p1 p2 (fun (r : Int32) (u : (Nat → Int32) × Int32 × Int32 × (Nat → Int32)) => r = zlw bcc bac bfc blc bf p1 p2 swf ∧ u = (bf, (zli bcc bac bfc blc bf p1 swf).1, (zli bcc bac bfc blc bf p1 swf).2.1, (zli bcc bac bfc blc bf p1 swf).2.2)) (fun (x39 : Int32) (x49 : Int32) (bf9 : Nat → Int32) (cnt9 : Int32) (call9 : Int32) (swf9 : Nat → Int32) => I_X4_lowestCellOfAllShapes_24 lgd ccc cac cfc clc cf bcc bac bfc blc bf lgf cnt call swf fnf p1 p2 x39 x49 bf9 cnt9 call9 swf9 ∧ mu_X4_lowestCellOfAllShapes_24 lgd ccc cac cfc clc cf bcc bac bfc blc bf lgf cnt call swf fnf p1 p2 x39 x49 bf9 cnt9 call9 swf9 < mu_X4_lowestCellOfAllShapes_24 lgd ccc cac cfc clc cf bcc bac bfc blc bf lgf cnt call swf fnf p1 p2 x3 x4 bf' cnt' call' swf') x3 x4 bf' cnt' call' swf' := by
  rintro x3 x4 bf' cnt' call' swf' ⟨rfl, ez, rfl, k, j, hkj, rfl, he⟩
  have hb := cl_lt p2
  unfold vs_X4_lowestCellOfAllShapes_24
  rw [zctf_same hpre]
  have e1 : cnt' = (zli bcc bac bfc blc bf' p1 swf).1 := by rw [← ez]
  have e2 : call' = (zli bcc bac bfc blc bf' p1 swf).2.1 := by rw [← ez]
  have e3 : swf' = (zli bcc bac bfc blc bf' p1 swf).2.2 := by rw [← ez]
  have eu : (bf', cnt', call', swf') = (bf', (zli bcc bac bfc blc bf' p1 swf).1, (zli bcc bac bfc blc bf' p1 swf).2.1, (zli bcc bac bfc blc bf' p1 swf).2.2) := by rw [← e1, ← e2, ← e3]
  refine ⟨fun c => ?_, fun c => ?_⟩
  · rw [cl_le p2 (by omega)] at c
    obtain rfl : j = 0 := by omega
    exact ⟨he, eu⟩
  · rw [cl_le p2 (by omega)] at c
    obtain ⟨j, rfl⟩ : ∃ j', j = j' + 1 := ⟨j - 1, by omega⟩
    have e9 : p2.toNatClampNeg - (j + 1) = k := by omega
    simp only [zlwF, e9] at he
    have hm : p2.toNatClampNeg - (nI k + 1).toNatClampNeg < p2.toNatClampNeg - (nI k).toNatClampNeg := hmu _ (by omega) hb
    refine ⟨fun c2 => ?_, fun c2 => ⟨fun c3 => ?_, fun c3 => ?_⟩⟩
    · rintro y rfl
      rw [b2i_eq0] at c2
      rw [c2] at he
      exact ⟨⟨rfl, ez, rfl, k + 1, j, by omega, nI_1 k, he⟩, hm⟩
    · rintro y rfl
      rw [b2i_eq0] at c3
      rw [c3, Bool.and_false] at he
      exact ⟨⟨rfl, ez, rfl, k + 1, j, by omega, nI_1 k, he⟩, hm⟩
    · rw [b2i_ne0] at c2 c3
      rw [c2, c3] at he
      exact ⟨he, eu⟩
theorem pe_X4_lowestCellOfAllShapes (lgd : Int32) (ccc : Int32) (cac : Int32) (cfc : Int32) (clc : Int32) (cf : Nat → Int32) (bcc : Int32) (bac : Int32) (bfc : Int32) (blc : Int32) (bf : Nat → Int32) (lgf : Nat → Int32) (cnt : Int32) (call : Int32) (swf : Nat → Int32) (fnf : Nat → Int32) (p1 : Int32) (p2 : Int32) (hpre : zval bf) : ve_X4_lowestCellOfAllShapes lgd ccc cac cfc clc cf bcc bac bfc blc bf lgf cnt call swf fnf p1 p2 (fun (r : Int32) (u : (Nat → Int32) × Int32 × Int32 × (Nat → Int32)) => r = zlw bcc bac bfc blc bf p1 p2 swf ∧ u = (bf, (zli bcc bac bfc blc bf p1 swf).1, (zli bcc bac bfc blc bf p1 swf).2.1, (zli bcc bac bfc blc bf p1 swf).2.2)) (I_X4_lowestCellOfAllShapes_24 lgd ccc cac cfc clc cf bcc bac bfc blc bf lgf cnt call swf fnf p1 p2) := by
  rintro y rfl
  exact ⟨rfl, rfl, rfl, 0, _, Nat.zero_add _, rfl, rfl⟩
theorem zliL_sw {cc ac fc lc : Int32} {f : Nat → Int32} {n fd fr : Int32} : ∀ (j : Nat) (a : Int32) (q1 q2 : Int32 × Int32 × (Nat → Int32)), q1.1 = q2.1 → q1.2.1 = q2.2.1 → (zliL cc ac fc lc f n fd fr j a q1).1 = (zliL cc ac fc lc f n fd fr j a q2).1 ∧ (zliL cc ac fc lc f n fd fr j a q1).2.1 = (zliL cc ac fc lc f n fd fr j a q2).2.1
  | 0, _, _, _, h1, h2 => ⟨h1, h2⟩
  | j + 1, a, q1, q2, h1, h2 => by
    have hs : (zlst cc ac fc lc f n fd q1 a).1 = (zlst cc ac fc lc f n fd q2 a).1 ∧ (zlst cc ac fc lc f n fd q1 a).2.1 = (zlst cc ac fc lc f n fd q2 a).2.1 := by
      unfold zlst
      split
      · unfold zn3; exact ⟨by rw [h1], by rw [h1, h2]⟩
      · exact ⟨h1, h2⟩
    simp only [zliL]
    split
    · exact hs
    · exact zliL_sw j _ _ _ hs.1 hs.2
theorem zli_sw {cc ac fc lc : Int32} {f : Nat → Int32} {c : Int32} (s1 s2 : Nat → Int32) : (zli cc ac fc lc f c s1).1 = (zli cc ac fc lc f c s2).1 ∧ (zli cc ac fc lc f c s1).2.1 = (zli cc ac fc lc f c s2).2.1 := by
  unfold zli
  split
  · exact ⟨rfl, rfl⟩
  · exact zliL_sw _ _ _ _ rfl rfl
theorem zlw_sw {cc ac fc lc : Int32} {f : Nat → Int32} {c lim : Int32} (s1 s2 : Nat → Int32) : zlw cc ac fc lc f c lim s1 = zlw cc ac fc lc f c lim s2 := by
  unfold zlw; rw [(zli_sw s1 s2).2]
def I_X4_findCellOfAllShapes_21 (lgd : Int32) (ccc : Int32) (cac : Int32) (cfc : Int32) (clc : Int32) (cf : Nat → Int32) (bcc : Int32) (bac : Int32) (bfc : Int32) (blc : Int32) (bf : Nat → Int32) (lgf : Nat → Int32) (cnt : Int32) (call : Int32) (swf : Nat → Int32) (fnf : Nat → Int32) : Int32 → Int32 → Int32 → Int32 → (Nat → Int32) → Int32 → Int32 → (Nat → Int32) → Prop := fun x1 x2 x3 x4 bf' cnt' call' swf' => bf' = bf ∧ ∃ k j : Nat, k + j = zN bac ∧ x4 = nI k ∧ zf2L bcc bac bfc blc bf (zN bac) j x1 x2 x3 = zf2 bcc bac bfc blc bf
def mu_X4_findCellOfAllShapes_21 (lgd : Int32) (ccc : Int32) (cac : Int32) (cfc : Int32) (clc : Int32) (cf : Nat → Int32) (bcc : Int32) (bac : Int32) (bfc : Int32) (blc : Int32) (bf : Nat → Int32) (lgf : Nat → Int32) (cnt : Int32) (call : Int32) (swf : Nat → Int32) (fnf : Nat → Int32) : Int32 → Int32 → Int32 → Int32 → (Nat → Int32) → Int32 → Int32 → (Nat → Int32) → Nat := fun x1 x2 x3 x4 bf' cnt' call' swf' => zN bac - x4.toNatClampNeg
theorem pl_X4_findCellOfAllShapes_21 (lgd : Int32) (ccc : Int32) (cac : Int32) (cfc : Int32) (clc : Int32) (cf : Nat → Int32) (bcc : Int32) (bac : Int32) (bfc : Int32) (blc : Int32) (bf : Nat → Int32) (lgf : Nat → Int32) (cnt : Int32) (call : Int32) (swf : Nat → Int32) (fnf : Nat → Int32) (hpre : zval bf ∧ (zN bac ≤ 12 ∧ bc bac = nI (zN bac))) : ∀ (x1 : Int32) (x2 : Int32) (x3 : Int32) (x4 : Int32) (bf' : Nat → Int32) (cnt' : Int32) (call' : Int32) (swf' : Nat → Int32), I_X4_findCellOfAllShapes_21 lgd ccc cac cfc clc cf bcc bac bfc blc bf lgf cnt call swf fnf x1 x2 x3 x4 bf' cnt' call' swf' → vs_X4_findCellOfAllShapes_21 lgd ccc cac cfc clc cf bcc bac bfc blc bf lgf cnt call swf fnf (fun (r : Int32) (u : (Nat → Int32) × Int32 × Int32 × (Nat → Int32)) => r = zf2 bcc bac bfc blc bf ∧ u.1 = bf) (fun (x19 : Int32) (x29 : Int32) (x39 : Int32) (x49 : Int32) (bf9 : Nat → Int32) (cnt9 : Int32) (call9 : Int32) (swf9 : Nat → Int32) => I_X4_findCellOfAllShapes_21 lgd ccc cac cfc clc cf bcc bac bfc blc bf lgf cnt call swf fnf x19 x29 x39 x49 bf9 cnt9 call9 swf9 ∧ mu_X4_findCellOfAllShapes_21 lgd ccc cac cfc clc cf bcc bac bfc blc bf lgf cnt call swf fnf x19 x29 x39 x49 bf9 cnt9 call9 swf9 < mu_X4_findCellOfAllShapes_21 lgd ccc cac cfc clc cf bcc bac bfc blc bf lgf cnt call swf fnf x1 x2 x3 x4 bf' cnt' call' swf') x1 x2 x3 x4 bf' cnt' call' swf' := by
  rintro x1 x2 x3 x4 bf' cnt' call' swf' ⟨rfl, k, j, hkj, rfl, he⟩
  obtain ⟨hv, hN, eN⟩ := hpre
  unfold vs_X4_findCellOfAllShapes_21
  rw [eN]
  refine ⟨fun c => ?_, fun c => ⟨fun c2 => ?_, fun c2 => ?_⟩⟩
  · have c := k_le (by omega) (by omega) c
    obtain rfl : j = 0 := by omega
    simp only [zf2L] at he
    exact ⟨fun c2 => ⟨by rw [← he, if_pos c2], rfl⟩, fun c2 => ⟨by rw [← he, if_neg c2], rfl⟩⟩
  all_goals
    have c := k_nle (by omega) (by omega) c
    obtain ⟨j, rfl⟩ : ∃ j', j = j' + 1 := ⟨j - 1, by omega⟩
    have e9 : zN bac - (j + 1) = k := by omega
    simp only [zf2L, e9] at he
    have hm : zN bac - (nI k + 1).toNatClampNeg < zN bac - (nI k).toNatClampNeg := hmu _ (by omega) (by omega)
  · rintro y rfl
    rw [b2i_eq0] at c2
    rw [c2] at he
    refine ⟨hv, ?_⟩
    rintro y rfl
    rw [zlw_sw swf' (fun _ => 0)]
    refine ⟨fun c3 => ?_, fun c3 => ?_⟩
    · rintro y rfl
      have he := he
      simp only [Bool.false_eq_true, if_false, if_pos c3] at he
      exact ⟨⟨rfl, k + 1, j, by omega, nI_1 k, he⟩, hm⟩
    · rintro y rfl y2 rfl
      simp only [Bool.false_eq_true, if_false, if_neg c3] at he
      exact ⟨⟨rfl, k + 1, j, by omega, nI_1 k, he⟩, hm⟩
  · rintro y rfl
    rw [b2i_ne0] at c2
    rw [c2, if_pos rfl] at he
    exact ⟨⟨rfl, k + 1, j, by omega, nI_1 k, he⟩, hm⟩
theorem pe_X4_findCellOfAllShapes (lgd : Int32) (ccc : Int32) (cac : Int32) (cfc : Int32) (clc : Int32) (cf : Nat → Int32) (bcc : Int32) (bac : Int32) (bfc : Int32) (blc : Int32) (bf : Nat → Int32) (lgf : Nat → Int32) (cnt : Int32) (call : Int32) (swf : Nat → Int32) (fnf : Nat → Int32) (hpre : zval bf ∧ (zN bac ≤ 12 ∧ bc bac = nI (zN bac))) : ve_X4_findCellOfAllShapes lgd ccc cac cfc clc cf bcc bac bfc blc bf lgf cnt call swf fnf (fun (r : Int32) (u : (Nat → Int32) × Int32 × Int32 × (Nat → Int32)) => r = zf2 bcc bac bfc blc bf ∧ u.1 = bf) (I_X4_findCellOfAllShapes_21 lgd ccc cac cfc clc cf bcc bac bfc blc bf lgf cnt call swf fnf) := by
  rintro y rfl y2 rfl
  exact ⟨rfl, 0, zN bac, Nat.zero_add _, rfl, rfl⟩
def I_X4_findHiddenOne_10 (lgd : Int32) (ccc : Int32) (cac : Int32) (cfc : Int32) (clc : Int32) (cf : Nat → Int32) (bcc : Int32) (bac : Int32) (bfc : Int32) (blc : Int32) (bf : Nat → Int32) (lgf : Nat → Int32) (cnt : Int32) (call : Int32) (swf : Nat → Int32) (fnf : Nat → Int32) : Int32 → Int32 → (Nat → Int32) → Prop := fun x1 x2 bf' => bf' = bf ∧ x1 = zhi bcc bac bfc blc bf ∧ ∃ k j : Nat, k + j = zN bac ∧ x2 = nI k ∧ zf3 bcc bac bfc blc bf (zN bac) j = zf3 bcc bac bfc blc bf (zN bac) (zN bac)
def mu_X4_findHiddenOne_10 (lgd : Int32) (ccc : Int32) (cac : Int32) (cfc : Int32) (clc : Int32) (cf : Nat → Int32) (bcc : Int32) (bac : Int32) (bfc : Int32) (blc : Int32) (bf : Nat → Int32) (lgf : Nat → Int32) (cnt : Int32) (call : Int32) (swf : Nat → Int32) (fnf : Nat → Int32) : Int32 → Int32 → (Nat → Int32) → Nat := fun x1 x2 bf' => zN bac - x2.toNatClampNeg
theorem pl_X4_findHiddenOne_10 (lgd : Int32) (ccc : Int32) (cac : Int32) (cfc : Int32) (clc : Int32) (cf : Nat → Int32) (bcc : Int32) (bac : Int32) (bfc : Int32) (blc : Int32) (bf : Nat → Int32) (lgf : Nat → Int32) (cnt : Int32) (call : Int32) (swf : Nat → Int32) (fnf : Nat → Int32) (hpre : zval bf ∧ (zN bac ≤ 12 ∧ bc bac = nI (zN bac))) : ∀ (x1 : Int32) (x2 : Int32) (bf' : Nat → Int32), I_X4_findHiddenOne_10 lgd ccc cac cfc clc cf bcc bac bfc blc bf lgf cnt call swf fnf x1 x2 bf' → vs_X4_findHiddenOne_10 lgd ccc cac cfc clc cf bcc bac bfc blc bf lgf cnt call swf fnf (fun (r : Int32) (u : (Nat → Int32)) => r = zf3 bcc bac bfc blc bf (zN bac) (zN bac) ∧ u = (bf)) (fun (x19 : Int32) (x29 : Int32) (bf9 : Nat → Int32) => I_X4_findHiddenOne_10 lgd ccc cac cfc clc cf bcc bac bfc blc bf lgf cnt call swf fnf x19 x29 bf9 ∧ mu_X4_findHiddenOne_10 lgd ccc cac cfc clc cf bcc bac bfc blc bf lgf cnt call swf fnf x19 x29 bf9 < mu_X4_findHiddenOne_10 lgd ccc cac cfc clc cf bcc bac bfc blc bf lgf cnt call swf fnf x1 x2 bf') x1 x2 bf' := by
  rintro x1 x2 bf' ⟨rfl, rfl, k, j, hkj, rfl, he⟩
  obtain ⟨hv, hN, eN⟩ := hpre
  unfold vs_X4_findHiddenOne_10
  rw [eN, zctf_same hv]
  refine ⟨fun c => ?_, fun c => ?_⟩
  · have c := k_le (by omega) (by omega) c
    obtain rfl : j = 0 := by omega
    exact ⟨he, rfl⟩
  · have c := k_nle (by omega) (by omega) c
    obtain ⟨j, rfl⟩ : ∃ j', j = j' + 1 := ⟨j - 1, by omega⟩
    have e9 : zN bac - (j + 1) = k := by omega
    simp only [zf3, e9] at he
    have hm : zN bac - (nI k + 1).toNatClampNeg < zN bac - (nI k).toNatClampNeg := hmu _ (by omega) (by omega)
    have hno : zf3c bcc bac bfc blc bf' (nI k) = false → ∀ y, y = nI k + 1 → (I_X4_findHiddenOne_10 lgd ccc cac cfc clc cf bcc bac bfc blc bf' lgf cnt call swf fnf (zhi bcc bac bfc blc bf') y bf' ∧ zN bac - y.toNatClampNeg < zN bac - (nI k).toNatClampNeg) := by
      rintro hz y rfl
      rw [hz] at he
      exact ⟨⟨rfl, rfl, k + 1, j, by omega, nI_1 k, he⟩, hm⟩
    refine ⟨fun c2 => ?_, fun c2 => ⟨fun c3 => ⟨fun c4 => ?_, fun c4 => ?_⟩, fun c3 => ?_⟩⟩
    · rw [b2i_eq0] at c2
      exact hno (by unfold zf3c; rw [c2]; rfl)
    · rw [b2i_eq0] at c4
      exact hno (by unfold zf3c; rw [c4, Bool.and_false, Bool.and_false])
    · rw [b2i_ne0] at c2 c4
      rw [b2i_eq0] at c3
      have hc : zf3c bcc bac bfc blc bf' (nI k) = true := by unfold zf3c; rw [c2, c4]; simpa using c3
      rw [hc, if_pos rfl] at he
      exact ⟨he, rfl⟩
    · rw [b2i_ne0] at c3
      exact hno (by unfold zf3c; have : decide (zbs bcc bac bfc blc (zbit (nI k)) &&& bf' 0 = 0) = false := by simpa using c3; 
                    rw [this]; simp)
theorem pe_X4_findHiddenOne (lgd : Int32) (ccc : Int32) (cac : Int32) (cfc : Int32) (clc : Int32) (cf : Nat → Int32) (bcc : Int32) (bac : Int32) (bfc : Int32) (blc : Int32) (bf : Nat → Int32) (lgf : Nat → Int32) (cnt : Int32) (call : Int32) (swf : Nat → Int32) (fnf : Nat → Int32) (hpre : zval bf ∧ (zN bac ≤ 12 ∧ bc bac = nI (zN bac))) : ve_X4_findHiddenOne lgd ccc cac cfc clc cf bcc bac bfc blc bf lgf cnt call swf fnf (fun (r : Int32) (u : (Nat → Int32)) => r = zf3 bcc bac bfc blc bf (zN bac) (zN bac) ∧ u = (bf)) (I_X4_findHiddenOne_10 lgd ccc cac cfc clc cf bcc bac bfc blc bf lgf cnt call swf fnf) := by
  rintro y rfl
  exact ⟨rfl, rfl, 0, zN bac, Nat.zero_add _, rfl, rfl⟩
theorem pe_X4_filled (lgd : Int32) (ccc : Int32) (cac : Int32) (cfc : Int32) (clc : Int32) (cf : Nat → Int32) (bcc : Int32) (bac : Int32) (bfc : Int32) (blc : Int32) (bf : Nat → Int32) (lgf : Nat → Int32) (cnt : Int32) (call : Int32) (swf : Nat → Int32) (fnf : Nat → Int32) : ve_X4_filled lgd ccc cac cfc clc cf bcc bac bfc blc bf lgf cnt call swf fnf (fun (r : Int32) (u : Unit) => r = lgd)  := rfl
theorem pe_X4_area (lgd : Int32) (ccc : Int32) (cac : Int32) (cfc : Int32) (clc : Int32) (cf : Nat → Int32) (bcc : Int32) (bac : Int32) (bfc : Int32) (blc : Int32) (bf : Nat → Int32) (lgf : Nat → Int32) (cnt : Int32) (call : Int32) (swf : Nat → Int32) (fnf : Nat → Int32) : ve_X4_area lgd ccc cac cfc clc cf bcc bac bfc blc bf lgf cnt call swf fnf (fun (r : Int32) (u : Unit) => r = bc bac)  := rfl
theorem pe_X4_isSolved (lgd : Int32) (ccc : Int32) (cac : Int32) (cfc : Int32) (clc : Int32) (cf : Nat → Int32) (bcc : Int32) (bac : Int32) (bfc : Int32) (blc : Int32) (bf : Nat → Int32) (lgf : Nat → Int32) (cnt : Int32) (call : Int32) (swf : Nat → Int32) (fnf : Nat → Int32) : ve_X4_isSolved lgd ccc cac cfc clc cf bcc bac bfc blc bf lgf cnt call swf fnf (fun (r : Int32) (u : Unit) => r = b2i (decide (bf 0 = 0) && zso bcc bac bfc blc bf 9))  := by
  refine ⟨fun c => ⟨fun c2 => ?_, fun c2 => ?_⟩, fun c => ?_⟩
  · rw [b2i_eq0] at c2
    show (0 : Int32) = b2i _
    rw [c2, Bool.and_false]; rfl
  · rw [b2i_ne0] at c2
    show (1 : Int32) = b2i _
    rw [c2, decide_eq_true c]; rfl
  · show (0 : Int32) = b2i _
    rw [decide_eq_false c]; rfl
