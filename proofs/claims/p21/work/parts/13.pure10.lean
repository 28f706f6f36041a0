/-! what FieldFiller's calls throw: 0 nothing, 1 no such cell, 2 a wrong argument, 3 a wrong state -/
def zxc (ac c : Int32) : Nat := if c < 0 then 1 else if c < bc ac then 0 else 1
def zxn (n : Int32) : Nat := if n < 1 then 2 else if n ≤ 9 then 0 else 2
def zx2 (ac c n : Int32) : Nat := if zxc ac c = 0 then zxn n else zxc ac c
def zxc2 (ac c o : Int32) : Nat := if zxc ac c = 0 then zxc ac o else zxc ac c
def zx5 (n : Int32) : Nat := if n < 1 then 2 else if n ≤ 5 then 0 else 2
def zxl (r c : Int32) : Nat := if min3 r 2 4 = true ∧ min3 c 2 4 = true ∧ r * c ≤ 12 then 0 else 2
def zxu (cc ac fc lc : Int32) (f : Nat → Int32) (bac c n : Int32) : Nat := if ¬ zxc bac c = 0 then zxc bac c else if ¬ n = 0 ∧ ¬ zxn n = 0 then zxn n else if zso cc ac fc lc (zwr f c n) 9 then 0 else 3
def zcu (cc ac fc lc : Int32) (f : Nat → Int32) (bac c n : Int32) : Nat → Int32 := if zxu cc ac fc lc f bac c n = 3 then zwr (zwr f c n) c (zni f c 9) else f
def zxf (cc ac fc lc : Int32) (f : Nat → Int32) (c n : Int32) : Nat := if ¬ zxc ac c = 0 then zxc ac c else if ¬ zxn n = 0 then zxn n else if zct cc ac fc lc f c n then 0 else 3
def zxd (n : Int32) : Nat := if n ≤ 0 then 3 else if n ≤ 12 then 0 else 3
def zxr (r : Int32) : Nat := if r = 0 ∨ r = 1 ∨ r = 2 then 0 else 2
def zrun (cc ac fc lc : Int32) (f : Nat → Int32) (r : Int32) : Int32 := if r = 0 then zf1 cc ac fc lc f (zN ac) (zN ac) else if r = 1 then zf2 cc ac fc lc f else zf3 cc ac fc lc f (zN ac) (zN ac)
def zsw (g : Nat → Int32) (c : Int32) : Int32 := if ¬ c < 0 ∧ c < 12 then g c.toNatClampNeg else 0
def ve_X4_requireCell (lgd : Int32) (ccc : Int32) (cac : Int32) (cfc : Int32) (clc : Int32) (cf : Nat → Int32) (bcc : Int32) (bac : Int32) (bfc : Int32) (blc : Int32) (bf : Nat → Int32) (lgf : Nat → Int32) (cnt : Int32) (call : Int32) (swf : Nat → Int32) (fnf : Nat → Int32) (p1 : Int32) (P : Unit → Prop) (X : String → (Unit) → Prop)  : Prop := (p1 < 0 → X ff_io ()) ∧ (¬ p1 < 0 → (p1 < (bc bac) → P ()) ∧ (¬ p1 < (bc bac) → X ff_io ()))
def ve_X4_requireNumber (p0 : Int32) (P : Unit → Prop) (X : String → (Unit) → Prop)  : Prop := (p0 < 1 → X ff_ia ()) ∧ (¬ p0 < 1 → (p0 ≤ 9 → P ()) ∧ (¬ p0 ≤ 9 → X ff_ia ()))
def ve_X4_at (lgd : Int32) (ccc : Int32) (cac : Int32) (cfc : Int32) (clc : Int32) (cf : Nat → Int32) (bcc : Int32) (bac : Int32) (bfc : Int32) (blc : Int32) (bf : Nat → Int32) (lgf : Nat → Int32) (cnt : Int32) (call : Int32) (swf : Nat → Int32) (fnf : Nat → Int32) (p1 : Int32) (P : Int32 → Unit → Prop) (X : String → (Unit) → Prop)  : Prop := (¬ (zxc bac p1) = 0 → X (xnm (zxc bac p1)) ()) ∧ ((zxc bac p1) = 0 → P (zni bf p1 9) ())
def ve_X4_isClue (lgd : Int32) (ccc : Int32) (cac : Int32) (cfc : Int32) (clc : Int32) (cf : Nat → Int32) (bcc : Int32) (bac : Int32) (bfc : Int32) (blc : Int32) (bf : Nat → Int32) (lgf : Nat → Int32) (cnt : Int32) (call : Int32) (swf : Nat → Int32) (fnf : Nat → Int32) (p1 : Int32) (P : Int32 → Unit → Prop) (X : String → (Unit) → Prop)  : Prop := (¬ (zxc bac p1) = 0 → X (xnm (zxc bac p1)) ()) ∧ ((zxc bac p1) = 0 → ((zni cf p1 9) = 0 → P 0 ()) ∧ (¬ (zni cf p1 9) = 0 → P 1 ()))
def ve_X4_size (lgd : Int32) (ccc : Int32) (cac : Int32) (cfc : Int32) (clc : Int32) (cf : Nat → Int32) (bcc : Int32) (bac : Int32) (bfc : Int32) (blc : Int32) (bf : Nat → Int32) (lgf : Nat → Int32) (cnt : Int32) (call : Int32) (swf : Nat → Int32) (fnf : Nat → Int32) (p1 : Int32) (P : Int32 → Unit → Prop) (X : String → (Unit) → Prop)  : Prop := (¬ (zxc bac p1) = 0 → X (xnm (zxc bac p1)) ()) ∧ ((zxc bac p1) = 0 → P (bc (zfo bcc bac bfc blc bf p1)) ())
def ve_X4_room (lgd : Int32) (ccc : Int32) (cac : Int32) (cfc : Int32) (clc : Int32) (cf : Nat → Int32) (bcc : Int32) (bac : Int32) (bfc : Int32) (blc : Int32) (bf : Nat → Int32) (lgf : Nat → Int32) (cnt : Int32) (call : Int32) (swf : Nat → Int32) (fnf : Nat → Int32) (p1 : Int32) (P : Int32 → Unit → Prop) (X : String → (Unit) → Prop)  : Prop := (¬ (zxc bac p1) = 0 → X (xnm (zxc bac p1)) ()) ∧ ((zxc bac p1) = 0 → P (bc (zro bcc bac bfc blc bf p1)) ())
def ve_X4_canBe (lgd : Int32) (ccc : Int32) (cac : Int32) (cfc : Int32) (clc : Int32) (cf : Nat → Int32) (bcc : Int32) (bac : Int32) (bfc : Int32) (blc : Int32) (bf : Nat → Int32) (lgf : Nat → Int32) (cnt : Int32) (call : Int32) (swf : Nat → Int32) (fnf : Nat → Int32) (p1 : Int32) (p2 : Int32) (P : Int32 → ((Nat → Int32)) → Prop) (X : String → ((Nat → Int32)) → Prop)  : Prop := (¬ (zxc bac p1) = 0 → X (xnm (zxc bac p1)) (bf)) ∧ ((zxc bac p1) = 0 → (¬ (zxn p2) = 0 → X (xnm (zxn p2)) (bf)) ∧ ((zxn p2) = 0 → P (b2i (zct bcc bac bfc blc bf p1 p2)) (zctf bf p1 p2)))
def ve_X4_isHidden (lgd : Int32) (ccc : Int32) (cac : Int32) (cfc : Int32) (clc : Int32) (cf : Nat → Int32) (bcc : Int32) (bac : Int32) (bfc : Int32) (blc : Int32) (bf : Nat → Int32) (lgf : Nat → Int32) (cnt : Int32) (call : Int32) (swf : Nat → Int32) (fnf : Nat → Int32) (p1 : Int32) (P : Int32 → Unit → Prop) (X : String → (Unit) → Prop)  : Prop := (¬ (zxc bac p1) = 0 → X (xnm (zxc bac p1)) ()) ∧ ((zxc bac p1) = 0 → P (b2i (zhas (zhi bcc bac bfc blc bf) p1)) ())
def ve_X4_shapes (lgd : Int32) (ccc : Int32) (cac : Int32) (cfc : Int32) (clc : Int32) (cf : Nat → Int32) (bcc : Int32) (bac : Int32) (bfc : Int32) (blc : Int32) (bf : Nat → Int32) (lgf : Nat → Int32) (cnt : Int32) (call : Int32) (swf : Nat → Int32) (fnf : Nat → Int32) (p1 : Int32) (P : Int32 → (Int32 × Int32 × (Nat → Int32)) → Prop) (X : String → (Unit) → Prop)  : Prop := (¬ (zxc bac p1) = 0 → X (xnm (zxc bac p1)) ()) ∧ ((zxc bac p1) = 0 → P ((zli bcc bac bfc blc bf p1 swf).1) ((zli bcc bac bfc blc bf p1 swf).1, (zli bcc bac bfc blc bf p1 swf).2.1, (zli bcc bac bfc blc bf p1 swf).2.2))
def ve_X4_shapesWith (lgd : Int32) (ccc : Int32) (cac : Int32) (cfc : Int32) (clc : Int32) (cf : Nat → Int32) (bcc : Int32) (bac : Int32) (bfc : Int32) (blc : Int32) (bf : Nat → Int32) (lgf : Nat → Int32) (cnt : Int32) (call : Int32) (swf : Nat → Int32) (fnf : Nat → Int32) (p1 : Int32) (p2 : Int32) (P : Int32 → (Int32 × Int32 × (Nat → Int32)) → Prop) (X : String → (Unit) → Prop)  : Prop := (¬ (zxc bac p1) = 0 → X (xnm (zxc bac p1)) ()) ∧ ((zxc bac p1) = 0 → (¬ (zxc bac p2) = 0 → X (xnm (zxc bac p2)) ()) ∧ ((zxc bac p2) = 0 → P (if ¬ p2 < 0 ∧ p2 < 12 then ((zli bcc bac bfc blc bf p1 swf).2.2) p2.toNatClampNeg else 0) ((zli bcc bac bfc blc bf p1 swf).1, (zli bcc bac bfc blc bf p1 swf).2.1, (zli bcc bac bfc blc bf p1 swf).2.2)))
def ve_X4_solutions (lgd : Int32) (ccc : Int32) (cac : Int32) (cfc : Int32) (clc : Int32) (cf : Nat → Int32) (bcc : Int32) (bac : Int32) (bfc : Int32) (blc : Int32) (bf : Nat → Int32) (lgf : Nat → Int32) (cnt : Int32) (call : Int32) (swf : Nat → Int32) (fnf : Nat → Int32) (p1 : Int32) (P : Int32 → ((Nat → Int32)) → Prop) (X : String → ((Nat → Int32)) → Prop)  : Prop := (p1 < 1 → X ff_ia (bf)) ∧ (¬ p1 < 1 → (p1 ≤ 5 → (zrp bac bf 0 p1 13) ∧ P (zcs bcc bac bfc blc bf 0 p1) (bf)) ∧ (¬ p1 ≤ 5 → X ff_ia (bf)))
def ve_X4_lay (lgd : Int32) (ccc : Int32) (cac : Int32) (cfc : Int32) (clc : Int32) (cf : Nat → Int32) (bcc : Int32) (bac : Int32) (bfc : Int32) (blc : Int32) (bf : Nat → Int32) (lgf : Nat → Int32) (cnt : Int32) (call : Int32) (swf : Nat → Int32) (fnf : Nat → Int32) (p1 : Int32) (p2 : Int32) (P : Int32 → (Int32 × Int32 × Int32 × Int32 × (Nat → Int32) × Int32 × Int32 × Int32 × Int32 × (Nat → Int32) × Int32) → Prop) (X : String → (Int32 × Int32 × Int32 × Int32 × (Nat → Int32) × Int32 × Int32 × Int32 × Int32 × (Nat → Int32) × Int32) → Prop)  : Prop := ((b2i (min3 p1 2 4)) = 0 → X ff_ia (ccc, cac, cfc, clc, cf, bcc, bac, bfc, blc, bf, lgd)) ∧ (¬ (b2i (min3 p1 2 4)) = 0 → ((b2i (min3 p2 2 4)) = 0 → X ff_ia (ccc, cac, cfc, clc, cf, bcc, bac, bfc, blc, bf, lgd)) ∧ (¬ (b2i (min3 p2 2 4)) = 0 → ((p1 * p2) ≤ 12 → P (bc (zac p1 p2)) (p2, zac p1 p2, zfc p2 (p1 : Int32).toNatClampNeg, zlc p2 (zfc p2 (p1 : Int32).toNatClampNeg), zem cf (zac p1 p2), p2, (zac p1 p2), (zfc p2 (p1 : Int32).toNatClampNeg), (zlc p2 (zfc p2 (p1 : Int32).toNatClampNeg)), zcp bf (zem cf (zac p1 p2)), 0)) ∧ (¬ (p1 * p2) ≤ 12 → X ff_ia (ccc, cac, cfc, clc, cf, bcc, bac, bfc, blc, bf, lgd))))
def ve_X4_clue (lgd : Int32) (ccc : Int32) (cac : Int32) (cfc : Int32) (clc : Int32) (cf : Nat → Int32) (bcc : Int32) (bac : Int32) (bfc : Int32) (blc : Int32) (bf : Nat → Int32) (lgf : Nat → Int32) (cnt : Int32) (call : Int32) (swf : Nat → Int32) (fnf : Nat → Int32) (p1 : Int32) (p2 : Int32) (P : Int32 → ((Nat → Int32) × Int32 × Int32 × Int32 × Int32 × (Nat → Int32) × Int32) → Prop) (X : String → ((Nat → Int32) × Int32 × Int32 × Int32 × Int32 × (Nat → Int32) × Int32) → Prop)  : Prop := (¬ (zxc bac p1) = 0 → X (xnm (zxc bac p1)) (cf, bcc, bac, bfc, blc, bf, lgd)) ∧ ((zxc bac p1) = 0 → (p2 = 0 → ∀ y_2 : Int32, y_2 = zni cf p1 9 → ((b2i (zso ccc cac cfc clc (zwr cf p1 p2) 9)) = 0 → X ff_is (zwr (zwr cf p1 p2) p1 y_2, bcc, bac, bfc, blc, bf, lgd)) ∧ (¬ (b2i (zso ccc cac cfc clc (zwr cf p1 p2) 9)) = 0 → P y_2 (zwr cf p1 p2, ccc, cac, cfc, clc, zcp bf (zwr cf p1 p2), 0))) ∧ (¬ p2 = 0 → (¬ (zxn p2) = 0 → X (xnm (zxn p2)) (cf, bcc, bac, bfc, blc, bf, lgd)) ∧ ((zxn p2) = 0 → ∀ y_4 : Int32, y_4 = zni cf p1 9 → ((b2i (zso ccc cac cfc clc (zwr cf p1 p2) 9)) = 0 → X ff_is (zwr (zwr cf p1 p2) p1 y_4, bcc, bac, bfc, blc, bf, lgd)) ∧ (¬ (b2i (zso ccc cac cfc clc (zwr cf p1 p2) 9)) = 0 → P y_4 (zwr cf p1 p2, ccc, cac, cfc, clc, zcp bf (zwr cf p1 p2), 0)))))
def ve_X4_fill (lgd : Int32) (ccc : Int32) (cac : Int32) (cfc : Int32) (clc : Int32) (cf : Nat → Int32) (bcc : Int32) (bac : Int32) (bfc : Int32) (blc : Int32) (bf : Nat → Int32) (lgf : Nat → Int32) (cnt : Int32) (call : Int32) (swf : Nat → Int32) (fnf : Nat → Int32) (p1 : Int32) (p2 : Int32) (P : Int32 → ((Nat → Int32) × (Nat → Int32) × Int32) → Prop) (X : String → ((Nat → Int32) × (Nat → Int32) × Int32) → Prop)  : Prop := (¬ (zxc bac p1) = 0 → X (xnm (zxc bac p1)) (bf, lgf, lgd)) ∧ ((zxc bac p1) = 0 → (¬ (zxn p2) = 0 → X (xnm (zxn p2)) (bf, lgf, lgd)) ∧ ((zxn p2) = 0 → ((b2i (zct bcc bac bfc blc bf p1 p2)) = 0 → X ff_is (zctf bf p1 p2, lgf, lgd)) ∧ (¬ (b2i (zct bcc bac bfc blc bf p1 p2)) = 0 → P (bc (zfo bcc bac bfc blc (if zlg lgd then zwr (zctf bf p1 p2) p1 p2 else (zctf bf p1 p2)) p1)) (if zlg lgd then zwr (zctf bf p1 p2) p1 p2 else (zctf bf p1 p2), if zlg lgd then upd lgf lgd.toNatClampNeg p1 else lgf, if zlg lgd then lgd + 1 else lgd))))
def ve_X4_undo (lgd : Int32) (ccc : Int32) (cac : Int32) (cfc : Int32) (clc : Int32) (cf : Nat → Int32) (bcc : Int32) (bac : Int32) (bfc : Int32) (blc : Int32) (bf : Nat → Int32) (lgf : Nat → Int32) (cnt : Int32) (call : Int32) (swf : Nat → Int32) (fnf : Nat → Int32) (P : Int32 → ((Nat → Int32) × Int32) → Prop) (X : String → ((Nat → Int32) × Int32) → Prop)  : Prop := (lgd ≤ 0 → X ff_is (bf, lgd)) ∧ (¬ lgd ≤ 0 → (lgd ≤ 12 → vp_in (lgd - 1) 12 ∧ ∀ y_4 : Int32, y_4 = lgf (lgd - 1 : Int32).toNatClampNeg → P y_4 (zwr bf y_4 0, lgd - 1)) ∧ (¬ lgd ≤ 12 → X ff_is (bf, lgd)))
def ve_X4_run (lgd : Int32) (ccc : Int32) (cac : Int32) (cfc : Int32) (clc : Int32) (cf : Nat → Int32) (bcc : Int32) (bac : Int32) (bfc : Int32) (blc : Int32) (bf : Nat → Int32) (lgf : Nat → Int32) (cnt : Int32) (call : Int32) (swf : Nat → Int32) (fnf : Nat → Int32) (p1 : Int32) (P : Int32 → ((Nat → Int32) × (Nat → Int32) × Int32 × Int32 × Int32 × (Nat → Int32)) → Prop) (X : String → ((Nat → Int32) × (Nat → Int32) × Int32 × Int32 × Int32 × (Nat → Int32)) → Prop)  : Prop := (p1 = 0 → (zval bf ∧ (zN bac ≤ 12 ∧ bc bac = nI (zN bac))) ∧ ∀ y_5 : Int32, y_5 = zf1 bcc bac bfc blc bf (zN bac) (zN bac) → (y_5 = (-1) → P y_5 (bf, lgf, lgd, cnt, call, swf)) ∧ (¬ y_5 = (-1) → P y_5 (if zlg lgd then zwr bf (y_5 / 10) (y_5 - y_5 / 10 * 10) else bf, if zlg lgd then upd lgf lgd.toNatClampNeg (y_5 / 10) else lgf, if zlg lgd then lgd + 1 else lgd, cnt, call, swf))) ∧ (¬ p1 = 0 → (p1 = 1 → (zval bf ∧ (zN bac ≤ 12 ∧ bc bac = nI (zN bac))) ∧ ∀ (cnt_8 : Int32) (call_8 : Int32) (swf_8 : Nat → Int32), ∀ y_9 : Int32, y_9 = zf2 bcc bac bfc blc bf → (y_9 = (-1) → P y_9 (bf, lgf, lgd, cnt_8, call_8, swf_8)) ∧ (¬ y_9 = (-1) → P y_9 (if zlg lgd then zwr bf (y_9 / 10) (y_9 - y_9 / 10 * 10) else bf, if zlg lgd then upd lgf lgd.toNatClampNeg (y_9 / 10) else lgf, if zlg lgd then lgd + 1 else lgd, cnt_8, call_8, swf_8))) ∧ (¬ p1 = 1 → (p1 = 2 → (zval bf ∧ (zN bac ≤ 12 ∧ bc bac = nI (zN bac))) ∧ ∀ y_12 : Int32, y_12 = zf3 bcc bac bfc blc bf (zN bac) (zN bac) → (y_12 = (-1) → P y_12 (bf, lgf, lgd, cnt, call, swf)) ∧ (¬ y_12 = (-1) → P y_12 (if zlg lgd then zwr bf (y_12 / 10) (y_12 - y_12 / 10 * 10) else bf, if zlg lgd then upd lgf lgd.toNatClampNeg (y_12 / 10) else lgf, if zlg lgd then lgd + 1 else lgd, cnt, call, swf))) ∧ (¬ p1 = 2 → X ff_ia (bf, lgf, lgd, cnt, call, swf))))
theorem zxc_ne {ac c : Int32} (h : ¬ zxc ac c = 0) : zxc ac c = 1 := by
  unfold zxc at *
  split
  · rfl
  · split
    · next h1 h2 => rw [if_neg h1, if_pos h2] at h; exact absurd rfl h
    · rfl
theorem zxn_ne {c : Int32} (h : ¬ zxn c = 0) : zxn c = 2 := by
  unfold zxn at *
  split
  · rfl
  · split
    · next h1 h2 => rw [if_neg h1, if_pos h2] at h; exact absurd rfl h
    · rfl
theorem pe_X4_requireCell (lgd : Int32) (ccc : Int32) (cac : Int32) (cfc : Int32) (clc : Int32) (cf : Nat → Int32) (bcc : Int32) (bac : Int32) (bfc : Int32) (blc : Int32) (bf : Nat → Int32) (lgf : Nat → Int32) (cnt : Int32) (call : Int32) (swf : Nat → Int32) (fnf : Nat → Int32) (p1 : Int32) : ve_X4_requireCell lgd ccc cac cfc clc cf bcc bac bfc blc bf lgf cnt call swf fnf p1 (fun (u : Unit) => zxc bac p1 = 0) (fun (E : String) (u : Unit) => ¬ zxc bac p1 = 0 ∧ E = xnm (zxc bac p1) ∧ u = ())  := by
  refine ⟨fun c => ?_, fun c => ⟨fun c2 => ?_, fun c2 => ?_⟩⟩
  · have e : zxc bac p1 = 1 := by unfold zxc; rw [if_pos c]
    refine ⟨?_, ?_, rfl⟩ <;> rw [e]
    · decide
    · rfl
  · show zxc bac p1 = 0
    unfold zxc; rw [if_neg c, if_pos c2]
  · have e : zxc bac p1 = 1 := by unfold zxc; rw [if_neg c, if_neg c2]
    refine ⟨?_, ?_, rfl⟩ <;> rw [e]
    · decide
    · rfl
theorem pe_X4_requireNumber (p0 : Int32) : ve_X4_requireNumber p0 (fun (u : Unit) => zxn p0 = 0) (fun (E : String) (u : Unit) => ¬ zxn p0 = 0 ∧ E = xnm (zxn p0) ∧ u = ())  := by
  refine ⟨fun c => ?_, fun c => ⟨fun c2 => ?_, fun c2 => ?_⟩⟩
  · have e : zxn p0 = 2 := by unfold zxn; rw [if_pos c]
    refine ⟨?_, ?_, rfl⟩ <;> rw [e]
    · decide
    · rfl
  · show zxn p0 = 0
    unfold zxn; rw [if_neg c, if_pos c2]
  · have e : zxn p0 = 2 := by unfold zxn; rw [if_neg c, if_neg c2]
    refine ⟨?_, ?_, rfl⟩ <;> rw [e]
    · decide
    · rfl
theorem pe_X4_at (lgd : Int32) (ccc : Int32) (cac : Int32) (cfc : Int32) (clc : Int32) (cf : Nat → Int32) (bcc : Int32) (bac : Int32) (bfc : Int32) (blc : Int32) (bf : Nat → Int32) (lgf : Nat → Int32) (cnt : Int32) (call : Int32) (swf : Nat → Int32) (fnf : Nat → Int32) (p1 : Int32) : ve_X4_at lgd ccc cac cfc clc cf bcc bac bfc blc bf lgf cnt call swf fnf p1 (fun (r : Int32) (u : Unit) => r = zni bf p1 9 ∧ zxc bac p1 = 0) (fun (E : String) (u : Unit) => ¬ zxc bac p1 = 0 ∧ E = xnm (zxc bac p1) ∧ u = ())  := ⟨fun c => ⟨c, rfl, rfl⟩, fun c => ⟨rfl, c⟩⟩
theorem pe_X4_isClue (lgd : Int32) (ccc : Int32) (cac : Int32) (cfc : Int32) (clc : Int32) (cf : Nat → Int32) (bcc : Int32) (bac : Int32) (bfc : Int32) (blc : Int32) (bf : Nat → Int32) (lgf : Nat → Int32) (cnt : Int32) (call : Int32) (swf : Nat → Int32) (fnf : Nat → Int32) (p1 : Int32) : ve_X4_isClue lgd ccc cac cfc clc cf bcc bac bfc blc bf lgf cnt call swf fnf p1 (fun (r : Int32) (u : Unit) => r = b2i (!decide (zni cf p1 9 = 0)) ∧ zxc bac p1 = 0) (fun (E : String) (u : Unit) => ¬ zxc bac p1 = 0 ∧ E = xnm (zxc bac p1) ∧ u = ())  := by
  refine ⟨fun c => ⟨c, rfl, rfl⟩, fun c => ⟨fun c2 => ⟨?_, c⟩, fun c2 => ⟨?_, c⟩⟩⟩
  · rw [decide_eq_true c2]; rfl
  · rw [decide_eq_false c2]; rfl
theorem pe_X4_size (lgd : Int32) (ccc : Int32) (cac : Int32) (cfc : Int32) (clc : Int32) (cf : Nat → Int32) (bcc : Int32) (bac : Int32) (bfc : Int32) (blc : Int32) (bf : Nat → Int32) (lgf : Nat → Int32) (cnt : Int32) (call : Int32) (swf : Nat → Int32) (fnf : Nat → Int32) (p1 : Int32) : ve_X4_size lgd ccc cac cfc clc cf bcc bac bfc blc bf lgf cnt call swf fnf p1 (fun (r : Int32) (u : Unit) => r = bc (zfo bcc bac bfc blc bf p1) ∧ zxc bac p1 = 0) (fun (E : String) (u : Unit) => ¬ zxc bac p1 = 0 ∧ E = xnm (zxc bac p1) ∧ u = ())  := ⟨fun c => ⟨c, rfl, rfl⟩, fun c => ⟨rfl, c⟩⟩
theorem pe_X4_room (lgd : Int32) (ccc : Int32) (cac : Int32) (cfc : Int32) (clc : Int32) (cf : Nat → Int32) (bcc : Int32) (bac : Int32) (bfc : Int32) (blc : Int32) (bf : Nat → Int32) (lgf : Nat → Int32) (cnt : Int32) (call : Int32) (swf : Nat → Int32) (fnf : Nat → Int32) (p1 : Int32) : ve_X4_room lgd ccc cac cfc clc cf bcc bac bfc blc bf lgf cnt call swf fnf p1 (fun (r : Int32) (u : Unit) => r = bc (zro bcc bac bfc blc bf p1) ∧ zxc bac p1 = 0) (fun (E : String) (u : Unit) => ¬ zxc bac p1 = 0 ∧ E = xnm (zxc bac p1) ∧ u = ())  := ⟨fun c => ⟨c, rfl, rfl⟩, fun c => ⟨rfl, c⟩⟩
theorem pe_X4_canBe (lgd : Int32) (ccc : Int32) (cac : Int32) (cfc : Int32) (clc : Int32) (cf : Nat → Int32) (bcc : Int32) (bac : Int32) (bfc : Int32) (blc : Int32) (bf : Nat → Int32) (lgf : Nat → Int32) (cnt : Int32) (call : Int32) (swf : Nat → Int32) (fnf : Nat → Int32) (p1 : Int32) (p2 : Int32) (hpre : zval bf) : ve_X4_canBe lgd ccc cac cfc clc cf bcc bac bfc blc bf lgf cnt call swf fnf p1 p2 (fun (r : Int32) (u : (Nat → Int32)) => r = b2i (zct bcc bac bfc blc bf p1 p2) ∧ u = (bf) ∧ zx2 bac p1 p2 = 0) (fun (E : String) (u : (Nat → Int32)) => ¬ zx2 bac p1 p2 = 0 ∧ E = xnm (zx2 bac p1 p2) ∧ u = (bf))  := by
  refine ⟨fun c => ?_, fun c => ⟨fun c2 => ?_, fun c2 => ?_⟩⟩
  · have e : zx2 bac p1 p2 = zxc bac p1 := by unfold zx2; rw [if_neg c]
    exact ⟨by rw [e]; exact c, by rw [e], rfl⟩
  · have e : zx2 bac p1 p2 = zxn p2 := by unfold zx2; rw [if_pos c]
    exact ⟨by rw [e]; exact c2, by rw [e], rfl⟩
  · have e : zx2 bac p1 p2 = zxn p2 := by unfold zx2; rw [if_pos c]
    exact ⟨rfl, zctf_same hpre _ _, by rw [e]; exact c2⟩
theorem pe_X4_isHidden (lgd : Int32) (ccc : Int32) (cac : Int32) (cfc : Int32) (clc : Int32) (cf : Nat → Int32) (bcc : Int32) (bac : Int32) (bfc : Int32) (blc : Int32) (bf : Nat → Int32) (lgf : Nat → Int32) (cnt : Int32) (call : Int32) (swf : Nat → Int32) (fnf : Nat → Int32) (p1 : Int32) : ve_X4_isHidden lgd ccc cac cfc clc cf bcc bac bfc blc bf lgf cnt call swf fnf p1 (fun (r : Int32) (u : Unit) => r = b2i (zhas (zhi bcc bac bfc blc bf) p1) ∧ zxc bac p1 = 0) (fun (E : String) (u : Unit) => ¬ zxc bac p1 = 0 ∧ E = xnm (zxc bac p1) ∧ u = ())  := ⟨fun c => ⟨c, rfl, rfl⟩, fun c => ⟨rfl, c⟩⟩
theorem pe_X4_shapes (lgd : Int32) (ccc : Int32) (cac : Int32) (cfc : Int32) (clc : Int32) (cf : Nat → Int32) (bcc : Int32) (bac : Int32) (bfc : Int32) (blc : Int32) (bf : Nat → Int32) (lgf : Nat → Int32) (cnt : Int32) (call : Int32) (swf : Nat → Int32) (fnf : Nat → Int32) (p1 : Int32) : ve_X4_shapes lgd ccc cac cfc clc cf bcc bac bfc blc bf lgf cnt call swf fnf p1 (fun (r : Int32) (u : Int32 × Int32 × (Nat → Int32)) => r = (zli bcc bac bfc blc bf p1 swf).1 ∧ zxc bac p1 = 0) (fun (E : String) (u : Unit) => ¬ zxc bac p1 = 0 ∧ E = xnm (zxc bac p1) ∧ u = ())  := ⟨fun c => ⟨c, rfl, rfl⟩, fun c => ⟨rfl, c⟩⟩
theorem pe_X4_shapesWith (lgd : Int32) (ccc : Int32) (cac : Int32) (cfc : Int32) (clc : Int32) (cf : Nat → Int32) (bcc : Int32) (bac : Int32) (bfc : Int32) (blc : Int32) (bf : Nat → Int32) (lgf : Nat → Int32) (cnt : Int32) (call : Int32) (swf : Nat → Int32) (fnf : Nat → Int32) (p1 : Int32) (p2 : Int32) : ve_X4_shapesWith lgd ccc cac cfc clc cf bcc bac bfc blc bf lgf cnt call swf fnf p1 p2 (fun (r : Int32) (u : Int32 × Int32 × (Nat → Int32)) => r = zsw (zli bcc bac bfc blc bf p1 swf).2.2 p2 ∧ zxc2 bac p1 p2 = 0) (fun (E : String) (u : Unit) => ¬ zxc2 bac p1 p2 = 0 ∧ E = xnm (zxc2 bac p1 p2) ∧ u = ())  := by
  refine ⟨fun c => ?_, fun c => ⟨fun c2 => ?_, fun c2 => ?_⟩⟩
  · have e : zxc2 bac p1 p2 = zxc bac p1 := by unfold zxc2; rw [if_neg c]
    exact ⟨by rw [e]; exact c, by rw [e], rfl⟩
  · have e : zxc2 bac p1 p2 = zxc bac p2 := by unfold zxc2; rw [if_pos c]
    exact ⟨by rw [e]; exact c2, by rw [e], rfl⟩
  · have e : zxc2 bac p1 p2 = zxc bac p2 := by unfold zxc2; rw [if_pos c]
    exact ⟨rfl, by rw [e]; exact c2⟩
theorem pe_X4_solutions (lgd : Int32) (ccc : Int32) (cac : Int32) (cfc : Int32) (clc : Int32) (cf : Nat → Int32) (bcc : Int32) (bac : Int32) (bfc : Int32) (blc : Int32) (bf : Nat → Int32) (lgf : Nat → Int32) (cnt : Int32) (call : Int32) (swf : Nat → Int32) (fnf : Nat → Int32) (p1 : Int32) (hpre : zval bf ∧ (zN bac ≤ 12 ∧ bc bac = nI (zN bac))) : ve_X4_solutions lgd ccc cac cfc clc cf bcc bac bfc blc bf lgf cnt call swf fnf p1 (fun (r : Int32) (u : (Nat → Int32)) => r = zcs bcc bac bfc blc bf 0 p1 ∧ u = (bf) ∧ zx5 p1 = 0) (fun (E : String) (u : (Nat → Int32)) => ¬ zx5 p1 = 0 ∧ E = xnm (zx5 p1) ∧ u = (bf))  := by
  obtain ⟨hv, hN, eN⟩ := hpre
  refine ⟨fun c => ?_, fun c => ⟨fun c2 => ⟨?_, rfl, rfl, ?_⟩, fun c2 => ?_⟩⟩
  · have e : zx5 p1 = 2 := by unfold zx5; rw [if_pos c]
    exact ⟨by rw [e]; decide, by rw [e]; rfl, rfl⟩
  · have h5 : min3 p1 1 5 = true := by unfold min3; rw [decide_eq_true (Int32.not_lt.mp c), decide_eq_true c2]; rfl
    obtain ⟨q, h1, h2, rfl⟩ := min15_in h5
    exact ⟨hv, ⟨hN, eN⟩, 0, q, rfl, Nat.zero_le _, by omega, rfl, h1, h2⟩
  · unfold zx5; rw [if_neg c, if_pos c2]
  · have e : zx5 p1 = 2 := by unfold zx5; rw [if_neg c, if_neg c2]
    exact ⟨by rw [e]; decide, by rw [e]; rfl, rfl⟩
theorem pe_X4_lay (lgd : Int32) (ccc : Int32) (cac : Int32) (cfc : Int32) (clc : Int32) (cf : Nat → Int32) (bcc : Int32) (bac : Int32) (bfc : Int32) (blc : Int32) (bf : Nat → Int32) (lgf : Nat → Int32) (cnt : Int32) (call : Int32) (swf : Nat → Int32) (fnf : Nat → Int32) (p1 : Int32) (p2 : Int32) : ve_X4_lay lgd ccc cac cfc clc cf bcc bac bfc blc bf lgf cnt call swf fnf p1 p2 (fun (r : Int32) (u : Int32 × Int32 × Int32 × Int32 × (Nat → Int32) × Int32 × Int32 × Int32 × Int32 × (Nat → Int32) × Int32) => r = bc (zac p1 p2) ∧ u = (p2, zac p1 p2, zfc p2 p1.toNatClampNeg, zlc p2 (zfc p2 p1.toNatClampNeg), zem cf (zac p1 p2), p2, zac p1 p2, zfc p2 p1.toNatClampNeg, zlc p2 (zfc p2 p1.toNatClampNeg), zcp bf (zem cf (zac p1 p2)), 0) ∧ zxl p1 p2 = 0) (fun (E : String) (u : Int32 × Int32 × Int32 × Int32 × (Nat → Int32) × Int32 × Int32 × Int32 × Int32 × (Nat → Int32) × Int32) => ¬ zxl p1 p2 = 0 ∧ E = xnm (zxl p1 p2) ∧ u = (ccc, cac, cfc, clc, cf, bcc, bac, bfc, blc, bf, lgd))  := by
  refine ⟨fun c => ?_, fun c => ⟨fun c2 => ?_, fun c2 => ⟨fun c3 => ?_, fun c3 => ?_⟩⟩⟩
  · rw [b2i_eq0] at c
    have e : zxl p1 p2 = 2 := by unfold zxl; rw [if_neg (fun z => by rw [c] at z; exact absurd z.1 (by decide))]
    exact ⟨by rw [e]; decide, by rw [e]; rfl, rfl⟩
  · rw [b2i_eq0] at c2
    have e : zxl p1 p2 = 2 := by unfold zxl; rw [if_neg (fun z => by rw [c2] at z; exact absurd z.2.1 (by decide))]
    exact ⟨by rw [e]; decide, by rw [e]; rfl, rfl⟩
  · rw [b2i_ne0] at c c2
    exact ⟨rfl, rfl, by unfold zxl; rw [if_pos ⟨c, c2, c3⟩]⟩
  · have e : zxl p1 p2 = 2 := by unfold zxl; rw [if_neg (fun z => c3 z.2.2)]
    exact ⟨by rw [e]; decide, by rw [e]; rfl, rfl⟩
theorem pe_X4_clue (lgd : Int32) (ccc : Int32) (cac : Int32) (cfc : Int32) (clc : Int32) (cf : Nat → Int32) (bcc : Int32) (bac : Int32) (bfc : Int32) (blc : Int32) (bf : Nat → Int32) (lgf : Nat → Int32) (cnt : Int32) (call : Int32) (swf : Nat → Int32) (fnf : Nat → Int32) (p1 : Int32) (p2 : Int32) : ve_X4_clue lgd ccc cac cfc clc cf bcc bac bfc blc bf lgf cnt call swf fnf p1 p2 (fun (r : Int32) (u : (Nat → Int32) × Int32 × Int32 × Int32 × Int32 × (Nat → Int32) × Int32) => r = zni cf p1 9 ∧ u = (zwr cf p1 p2, ccc, cac, cfc, clc, zcp bf (zwr cf p1 p2), 0) ∧ zxu ccc cac cfc clc cf bac p1 p2 = 0) (fun (E : String) (u : (Nat → Int32) × Int32 × Int32 × Int32 × Int32 × (Nat → Int32) × Int32) => ¬ zxu ccc cac cfc clc cf bac p1 p2 = 0 ∧ E = xnm (zxu ccc cac cfc clc cf bac p1 p2) ∧ u = (zcu ccc cac cfc clc cf bac p1 p2, bcc, bac, bfc, blc, bf, lgd))  := by
  refine ⟨fun c => ?_, fun c => ?_⟩
  · have e : zxu ccc cac cfc clc cf bac p1 p2 = zxc bac p1 := by unfold zxu; rw [if_pos c]
    have e2 : zcu ccc cac cfc clc cf bac p1 p2 = cf := by unfold zcu; rw [e, zxc_ne c, if_neg (by decide)]
    exact ⟨by rw [e]; exact c, by rw [e], by rw [e2]⟩
  · have hcc : ¬ ¬ zxc bac p1 = 0 := fun z => z c
    have fin : ¬ (¬ p2 = 0 ∧ ¬ zxn p2 = 0) → ∀ y, y = zni cf p1 9 → _ := fun hn y hy => (⟨fun c3 => ?_, fun c3 => ?_⟩ : ((b2i (zso ccc cac cfc clc (zwr cf p1 p2) 9)) = 0 → (¬ zxu ccc cac cfc clc cf bac p1 p2 = 0 ∧ ff_is = xnm (zxu ccc cac cfc clc cf bac p1 p2) ∧ (zwr (zwr cf p1 p2) p1 y, bcc, bac, bfc, blc, bf, lgd) = (zcu ccc cac cfc clc cf bac p1 p2, bcc, bac, bfc, blc, bf, lgd))) ∧ (¬ (b2i (zso ccc cac cfc clc (zwr cf p1 p2) 9)) = 0 → (y = zni cf p1 9 ∧ (zwr cf p1 p2, ccc, cac, cfc, clc, zcp bf (zwr cf p1 p2), (0 : Int32)) = (zwr cf p1 p2, ccc, cac, cfc, clc, zcp bf (zwr cf p1 p2), 0) ∧ zxu ccc cac cfc clc cf bac p1 p2 = 0)))
    · refine ⟨fun c2 => fin (fun z => z.1 c2), fun c2 => ⟨fun c3 => ?_, fun c3 => fin (fun z => z.2 c3)⟩⟩
      have e : zxu ccc cac cfc clc cf bac p1 p2 = zxn p2 := by unfold zxu; rw [if_neg hcc, if_pos ⟨c2, c3⟩]
      have e2 : zcu ccc cac cfc clc cf bac p1 p2 = cf := by unfold zcu; rw [e, zxn_ne c3, if_neg (by decide)]
      exact ⟨by rw [e]; exact c3, by rw [e], by rw [e2]⟩
    · rw [b2i_eq0] at c3
      have e : zxu ccc cac cfc clc cf bac p1 p2 = 3 := by unfold zxu; rw [if_neg hcc, if_neg hn, c3]; rfl
      have e2 : zcu ccc cac cfc clc cf bac p1 p2 = zwr (zwr cf p1 p2) p1 (zni cf p1 9) := by unfold zcu; rw [e, if_pos rfl]
      exact ⟨by rw [e]; decide, by rw [e]; rfl, by rw [e2, hy]⟩
    · rw [b2i_ne0] at c3
      exact ⟨hy, rfl, by unfold zxu; rw [if_neg hcc, if_neg hn, c3]; rfl⟩
theorem pe_X4_fill (lgd : Int32) (ccc : Int32) (cac : Int32) (cfc : Int32) (clc : Int32) (cf : Nat → Int32) (bcc : Int32) (bac : Int32) (bfc : Int32) (blc : Int32) (bf : Nat → Int32) (lgf : Nat → Int32) (cnt : Int32) (call : Int32) (swf : Nat → Int32) (fnf : Nat → Int32) (p1 : Int32) (p2 : Int32) (hpre : zval bf) : ve_X4_fill lgd ccc cac cfc clc cf bcc bac bfc blc bf lgf cnt call swf fnf p1 p2 (fun (r : Int32) (u : (Nat → Int32) × (Nat → Int32) × Int32) => r = bc (zfo bcc bac bfc blc (if zlg lgd then zwr bf p1 p2 else bf) p1) ∧ u = (if zlg lgd then zwr bf p1 p2 else bf, if zlg lgd then upd lgf lgd.toNatClampNeg p1 else lgf, if zlg lgd then lgd + 1 else lgd) ∧ zxf bcc bac bfc blc bf p1 p2 = 0) (fun (E : String) (u : (Nat → Int32) × (Nat → Int32) × Int32) => ¬ zxf bcc bac bfc blc bf p1 p2 = 0 ∧ E = xnm (zxf bcc bac bfc blc bf p1 p2) ∧ u = (bf, lgf, lgd))  := by
  unfold ve_X4_fill
  rw [zctf_same hpre]
  refine ⟨fun c => ?_, fun c => ⟨fun c2 => ?_, fun c2 => ⟨fun c3 => ?_, fun c3 => ?_⟩⟩⟩
  · have e : zxf bcc bac bfc blc bf p1 p2 = zxc bac p1 := by unfold zxf; rw [if_pos c]
    exact ⟨by rw [e]; exact c, by rw [e], rfl⟩
  · have e : zxf bcc bac bfc blc bf p1 p2 = zxn p2 := by unfold zxf; rw [if_neg (fun z => z c), if_pos c2]
    exact ⟨by rw [e]; exact c2, by rw [e], rfl⟩
  · rw [b2i_eq0] at c3
    have e : zxf bcc bac bfc blc bf p1 p2 = 3 := by unfold zxf; rw [if_neg (fun z => z c), if_neg (fun z => z c2), c3]; rfl
    exact ⟨by rw [e]; decide, by rw [e]; rfl, rfl⟩
  · rw [b2i_ne0] at c3
    exact ⟨rfl, rfl, by unfold zxf; rw [if_neg (fun z => z c), if_neg (fun z => z c2), c3]; rfl⟩
theorem pe_X4_undo (lgd : Int32) (ccc : Int32) (cac : Int32) (cfc : Int32) (clc : Int32) (cf : Nat → Int32) (bcc : Int32) (bac : Int32) (bfc : Int32) (blc : Int32) (bf : Nat → Int32) (lgf : Nat → Int32) (cnt : Int32) (call : Int32) (swf : Nat → Int32) (fnf : Nat → Int32) : ve_X4_undo lgd ccc cac cfc clc cf bcc bac bfc blc bf lgf cnt call swf fnf (fun (r : Int32) (u : (Nat → Int32) × Int32) => r = lgf (lgd - 1).toNatClampNeg ∧ u = (zwr bf (lgf (lgd - 1).toNatClampNeg) 0, lgd - 1) ∧ zxd lgd = 0) (fun (E : String) (u : (Nat → Int32) × Int32) => ¬ zxd lgd = 0 ∧ E = xnm (zxd lgd) ∧ u = (bf, lgd))  := by
  refine ⟨fun c => ?_, fun c => ⟨fun c2 => ⟨?_, ?_⟩, fun c2 => ?_⟩⟩
  · have e : zxd lgd = 3 := by unfold zxd; rw [if_pos c]
    exact ⟨by rw [e]; decide, by rw [e]; rfl, rfl⟩
  · obtain ⟨j, hj, rfl⟩ := nI_of2 (x := lgd) (M := 12) (n := 12) (by decide) (fun z => c (by rw [fx_le]; rw [fx_lt] at z; omega)) c2
    cases j with
    | zero => exact absurd (by decide) c
    | succ j => rw [nI_pred]; exact vp_in_nI (by omega) (by decide)
  · rintro y rfl
    exact ⟨rfl, rfl, by unfold zxd; rw [if_neg c, if_pos c2]⟩
  · have e : zxd lgd = 3 := by unfold zxd; rw [if_neg c, if_neg c2]
    exact ⟨by rw [e]; decide, by rw [e]; rfl, rfl⟩
theorem pe_X4_run (lgd : Int32) (ccc : Int32) (cac : Int32) (cfc : Int32) (clc : Int32) (cf : Nat → Int32) (bcc : Int32) (bac : Int32) (bfc : Int32) (blc : Int32) (bf : Nat → Int32) (lgf : Nat → Int32) (cnt : Int32) (call : Int32) (swf : Nat → Int32) (fnf : Nat → Int32) (p1 : Int32) (hpre : zval bf ∧ (zN bac ≤ 12 ∧ bc bac = nI (zN bac))) : ve_X4_run lgd ccc cac cfc clc cf bcc bac bfc blc bf lgf cnt call swf fnf p1 (fun (r : Int32) (u : (Nat → Int32) × (Nat → Int32) × Int32 × Int32 × Int32 × (Nat → Int32)) => r = (zrun bcc bac bfc blc bf p1) ∧ u.1 = (if ¬ (zrun bcc bac bfc blc bf p1) = -1 ∧ zlg lgd then zwr bf ((zrun bcc bac bfc blc bf p1) / 10) (zrem (zrun bcc bac bfc blc bf p1) 10) else bf) ∧ u.2.1 = (if ¬ (zrun bcc bac bfc blc bf p1) = -1 ∧ zlg lgd then upd lgf lgd.toNatClampNeg ((zrun bcc bac bfc blc bf p1) / 10) else lgf) ∧ u.2.2.1 = (if ¬ (zrun bcc bac bfc blc bf p1) = -1 ∧ zlg lgd then lgd + 1 else lgd) ∧ zxr p1 = 0) (fun (E : String) (u : (Nat → Int32) × (Nat → Int32) × Int32 × Int32 × Int32 × (Nat → Int32)) => ¬ zxr p1 = 0 ∧ E = xnm (zxr p1) ∧ u = (bf, lgf, lgd, cnt, call, swf))  := by
  have hN1 : ∀ (y : Int32) (a1 a2 : Int32) (a3 : Nat → Int32), zxr p1 = 0 → y = zrun bcc bac bfc blc bf p1 → True := fun _ _ _ _ _ _ => trivial
  refine ⟨fun c => ⟨hpre, ?_⟩, fun c => ⟨fun c2 => ⟨hpre, fun a1 a2 a3 => ?_⟩, fun c2 => ⟨fun c3 => ⟨hpre, ?_⟩, fun c3 => ?_⟩⟩⟩
  · intro y hy
    have e : zrun bcc bac bfc blc bf p1 = y := by unfold zrun; rw [if_pos c, hy]
    have ex : zxr p1 = 0 := by unfold zxr; rw [if_pos (Or.inl c)]
    rw [e]
    exact ⟨fun c4 => ⟨rfl, by simp [c4], by simp [c4], by simp [c4], ex⟩, fun c4 => ⟨rfl, by simp [c4, zrem], by simp [c4], by simp [c4], ex⟩⟩
  · intro y hy
    have e : zrun bcc bac bfc blc bf p1 = y := by unfold zrun; rw [if_neg c, if_pos c2, hy]
    have ex : zxr p1 = 0 := by unfold zxr; rw [if_pos (Or.inr (Or.inl c2))]
    rw [e]
    exact ⟨fun c4 => ⟨rfl, by simp [c4], by simp [c4], by simp [c4], ex⟩, fun c4 => ⟨rfl, by simp [c4, zrem], by simp [c4], by simp [c4], ex⟩⟩
  · intro y hy
    have e : zrun bcc bac bfc blc bf p1 = y := by unfold zrun; rw [if_neg c, if_neg c2, hy]
    have ex : zxr p1 = 0 := by unfold zxr; rw [if_pos (Or.inr (Or.inr c3))]
    rw [e]
    exact ⟨fun c4 => ⟨rfl, by simp [c4], by simp [c4], by simp [c4], ex⟩, fun c4 => ⟨rfl, by simp [c4, zrem], by simp [c4], by simp [c4], ex⟩⟩
  · have e : zxr p1 = 2 := by unfold zxr; rw [if_neg (fun z => by rcases z with z | z | z; exact c z; exact c2 z; exact c3 z)]
    exact ⟨by rw [e]; decide, by rw [e]; rfl, rfl⟩
