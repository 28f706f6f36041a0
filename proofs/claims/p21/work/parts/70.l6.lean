def vs_L_step_59 (lgd : Int32) (ccc : Int32) (cac : Int32) (cfc : Int32) (clc : Int32) (cf : Nat → Int32) (bcc : Int32) (bac : Int32) (bfc : Int32) (blc : Int32) (bf : Nat → Int32) (lgf : Nat → Int32) (cnt : Int32) (call : Int32) (swf : Nat → Int32) (fnf : Nat → Int32) (fb : Nat → Int32) (fk : Nat → Int32) (fg : Nat → Int32) (fl : Nat → Int32) (p1 : Int32) (p2 : Int32) (p3 : Int32) (P : Int32 → (Int32 × Int32 × Int32 × Int32 × (Nat → Int32) × Int32 × Int32 × Int32 × Int32 × (Nat → Int32) × (Nat → Int32) × Int32 × Int32 × Int32 × (Nat → Int32) × (Nat → Int32) × (Nat → Int32) × (Nat → Int32) × (Nat → Int32) × (Nat → Int32)) → Prop) (J59 : Int32 → Int32 → Int32 → Int32 → Int32 → Int32 → (Nat → Int32) → Int32 → Int32 → Int32 → Int32 → (Nat → Int32) → (Nat → Int32) → Int32 → Int32 → Int32 → (Nat → Int32) → (Nat → Int32) → (Nat → Int32) → (Nat → Int32) → (Nat → Int32) → (Nat → Int32) → Prop) (x8 : Int32) (x9 : Int32) (ccc' : Int32) (cac' : Int32) (cfc' : Int32) (clc' : Int32) (cf' : Nat → Int32) (bcc' : Int32) (bac' : Int32) (bfc' : Int32) (blc' : Int32) (bf' : Nat → Int32) (lgf' : Nat → Int32) (lgd' : Int32) (cnt' : Int32) (call' : Int32) (swf' : Nat → Int32) (fnf' : Nat → Int32) (fb' : Nat → Int32) (fk' : Nat → Int32) (fg' : Nat → Int32) (fl' : Nat → Int32) : Prop := (12 ≤ x9 → (zxl (fg' 0) (fg' 1) = 0) ∧ ((bc (zac (fg' 0) (fg' 1))) = ((fg' 0) * (fg' 1)) → P 1 ((fg' 1), zac (fg' 0) (fg' 1), zfc (fg' 1) (fg' 0).toNatClampNeg, zlc (fg' 1) (zfc (fg' 1) (fg' 0).toNatClampNeg), zem cf' (zac (fg' 0) (fg' 1)), (fg' 1), zac (fg' 0) (fg' 1), zfc (fg' 1) (fg' 0).toNatClampNeg, zlc (fg' 1) (zfc (fg' 1) (fg' 0).toNatClampNeg), zcp bf' (zem cf' (zac (fg' 0) (fg' 1))), lgf', 0, cnt', call', swf', fnf', fb', fk', fg', fl')) ∧ (¬ (bc (zac (fg' 0) (fg' 1))) = ((fg' 0) * (fg' 1)) → P 0 ((fg' 1), zac (fg' 0) (fg' 1), zfc (fg' 1) (fg' 0).toNatClampNeg, zlc (fg' 1) (zfc (fg' 1) (fg' 0).toNatClampNeg), zem cf' (zac (fg' 0) (fg' 1)), (fg' 1), zac (fg' 0) (fg' 1), zfc (fg' 1) (fg' 0).toNatClampNeg, zlc (fg' 1) (zfc (fg' 1) (fg' 0).toNatClampNeg), zcp bf' (zem cf' (zac (fg' 0) (fg' 1))), lgf', 0, cnt', call', swf', fnf', fb', fk', fg', fl'))) ∧ (¬ 12 ≤ x9 → vp_in x9 12 ∧ vp_in x9 12 ∧ ∀ y_6 : Int32, y_6 = x9 + 1 → (J59 x8 y_6 ccc' cac' cfc' clc' cf' bcc' bac' bfc' blc' bf' lgf' lgd' cnt' call' swf' fnf' (upd fb' x9.toNatClampNeg 0) (upd fk' x9.toNatClampNeg 0) fg' fl'))
def ve_L_step (lgd : Int32) (ccc : Int32) (cac : Int32) (cfc : Int32) (clc : Int32) (cf : Nat → Int32) (bcc : Int32) (bac : Int32) (bfc : Int32) (blc : Int32) (bf : Nat → Int32) (lgf : Nat → Int32) (cnt : Int32) (call : Int32) (swf : Nat → Int32) (fnf : Nat → Int32) (fb : Nat → Int32) (fk : Nat → Int32) (fg : Nat → Int32) (fl : Nat → Int32) (p1 : Int32) (p2 : Int32) (p3 : Int32) (P : Int32 → (Int32 × Int32 × Int32 × Int32 × (Nat → Int32) × Int32 × Int32 × Int32 × Int32 × (Nat → Int32) × (Nat → Int32) × Int32 × Int32 × Int32 × (Nat → Int32) × (Nat → Int32) × (Nat → Int32) × (Nat → Int32) × (Nat → Int32) × (Nat → Int32)) → Prop) (J59 : Int32 → Int32 → Int32 → Int32 → Int32 → Int32 → (Nat → Int32) → Int32 → Int32 → Int32 → Int32 → (Nat → Int32) → (Nat → Int32) → Int32 → Int32 → Int32 → (Nat → Int32) → (Nat → Int32) → (Nat → Int32) → (Nat → Int32) → (Nat → Int32) → (Nat → Int32) → Prop) : Prop := ¬ ((fg 0) * (fg 1)) = 0 ∧ ∀ y_8 : Int32, y_8 = p2 - p2 / ((fg 0) * (fg 1)) * ((fg 0) * (fg 1)) → (p1 = 0 → (((upd fg 0 (2 + (p2 - p2 / 3 * 3))) 0) = 4 → (J59 y_8 0 ccc cac cfc clc cf bcc bac bfc blc bf lgf lgd cnt call swf fnf fb fk (upd (upd (upd fg 0 (2 + (p2 - p2 / 3 * 3))) 1 (2 + (p3 - p3 / 2 * 2))) 2 0) fl)) ∧ (¬ ((upd fg 0 (2 + (p2 - p2 / 3 * 3))) 0) = 4 → (J59 y_8 0 ccc cac cfc clc cf bcc bac bfc blc bf lgf lgd cnt call swf fnf fb fk (upd (upd (upd fg 0 (2 + (p2 - p2 / 3 * 3))) 1 (2 + (p3 - p3 / 3 * 3))) 2 0) fl))) ∧ (¬ p1 = 0 → (3 ≤ p1 → (p1 = 3 → (0 < (p3 - p3 / 3 * 3) → P 1 (ccc, cac, cfc, clc, cf, bcc, bac, bfc, blc, bf, lgf, lgd, cnt, call, swf, fnf, fb, fk, fg, fl)) ∧ (¬ 0 < (p3 - p3 / 3 * 3) → (PK ccc cac cfc clc cf bcc bac bfc blc bf fb fk fg ∧ ¬ p2 < 0) ∧ ∀ (cf_55 : Nat → Int32) (bcc_55 : Int32) (bac_55 : Int32) (bfc_55 : Int32) (blc_55 : Int32) (bf_55 : Nat → Int32) (lgd_55 : Int32) (fnf_55 : Nat → Int32) (fb_55 : Nat → Int32) (fk_55 : Nat → Int32) (fg_55 : Nat → Int32), (∀ z, PI lgd_55 ccc cac cfc clc cf_55 bcc_55 bac_55 bfc_55 blc_55 bf_55 lgf fb_55 fk_55 fg_55 z) → P 1 (ccc, cac, cfc, clc, cf_55, bcc_55, bac_55, bfc_55, blc_55, bf_55, lgf, lgd_55, cnt, call, swf, fnf_55, fb_55, fk_55, fg_55, fl))) ∧ (¬ p1 = 3 → (8 ≤ p1 → (10 ≤ p1 → ((∃ z, PI lgd ccc cac cfc clc cf bcc bac bfc blc bf lgf fb z fg fl) ∧ min3 (p1 - p1 / 3 * 3) 0 2 = true) ∧ ∀ (bf_15 : Nat → Int32) (lgf_15 : Nat → Int32) (lgd_15 : Int32) (cnt_15 : Int32) (call_15 : Int32) (swf_15 : Nat → Int32) (fb_15 : Nat → Int32) (fg_15 : Nat → Int32) (fl_15 : Nat → Int32), (∀ z, PI lgd ccc cac cfc clc cf bcc bac bfc blc bf lgf fb z fg fl → PI lgd_15 ccc cac cfc clc cf bcc bac bfc blc bf_15 lgf_15 fb_15 z fg_15 fl_15) → P 1 (ccc, cac, cfc, clc, cf, bcc, bac, bfc, blc, bf_15, lgf_15, lgd_15, cnt_15, call_15, swf_15, fnf, fb_15, fk, fg_15, fl_15)) ∧ (¬ 10 ≤ p1 → ((fg 2) = 0 → P 1 (ccc, cac, cfc, clc, cf, bcc, bac, bfc, blc, bf, lgf, lgd, cnt, call, swf, fnf, fb, fk, fg, fl)) ∧ (¬ (fg 2) = 0 → vp_in ((upd fg 2 ((fg 2) - 1)) 2) 12 ∧ vp_in (fl ((upd fg 2 ((fg 2) - 1)) 2 : Int32).toNatClampNeg) 12 ∧ (zxd lgd = 0) ∧ vp_in ((upd fg 2 ((fg 2) - 1)) 2) 12 ∧ ((lgf (lgd - 1).toNatClampNeg) = (fl ((upd fg 2 ((fg 2) - 1)) 2 : Int32).toNatClampNeg) → P 1 (ccc, cac, cfc, clc, cf, bcc, bac, bfc, blc, zwr bf (lgf (lgd - 1).toNatClampNeg) 0, lgf, lgd - 1, cnt, call, swf, fnf, upd fb (fl ((upd fg 2 ((fg 2) - 1)) 2 : Int32).toNatClampNeg : Int32).toNatClampNeg 0, fk, upd fg 2 ((fg 2) - 1), fl)) ∧ (¬ (lgf (lgd - 1).toNatClampNeg) = (fl ((upd fg 2 ((fg 2) - 1)) 2 : Int32).toNatClampNeg) → P 0 (ccc, cac, cfc, clc, cf, bcc, bac, bfc, blc, zwr bf (lgf (lgd - 1).toNatClampNeg) 0, lgf, lgd - 1, cnt, call, swf, fnf, upd fb (fl ((upd fg 2 ((fg 2) - 1)) 2 : Int32).toNatClampNeg : Int32).toNatClampNeg 0, fk, upd fg 2 ((fg 2) - 1), fl))))) ∧ (¬ 8 ≤ p1 → ((p3 - p3 / 3 * 3) = 0 → ∀ y_38 : Int32, y_38 = 1 + ((p3 / 3) - (p3 / 3) / 9 * 9) → (zval bf ∧ zx2 bac y_8 y_38 = 0) ∧ ∀ y_40 : Int32, y_40 = b2i (zct bcc bac bfc blc bf y_8 y_38) → ((zval bf) ∧ (zxf bcc bac bfc blc bf y_8 y_38 = 0 ∨ zxf bcc bac bfc blc bf y_8 y_38 = 3)) ∧ ∀ (r_42 : Int32) (bf_42 : Nat → Int32) (lgf_42 : Nat → Int32) (lgd_42 : Int32), ((zxf bcc bac bfc blc bf y_8 y_38 = 0 → r_42 = bc (zfo bcc bac bfc blc (if zlg lgd then zwr bf y_8 y_38 else bf) y_8) ∧ bf_42 = (if zlg lgd then zwr bf y_8 y_38 else bf) ∧ lgf_42 = (if zlg lgd then upd lgf lgd.toNatClampNeg y_8 else lgf) ∧ lgd_42 = (if zlg lgd then lgd + 1 else lgd)) ∧ (¬ zxf bcc bac bfc blc bf y_8 y_38 = 0 → r_42 = -8 ∧ bf_42 = bf ∧ lgf_42 = lgf ∧ lgd_42 = lgd)) → (y_40 = 0 → (y_40 = 0 → (r_42 = (-8) → P 1 (ccc, cac, cfc, clc, cf, bcc, bac, bfc, blc, bf_42, lgf_42, lgd_42, cnt, call, swf, fnf, fb, fk, fg, fl)) ∧ (¬ r_42 = (-8) → P 0 (ccc, cac, cfc, clc, cf, bcc, bac, bfc, blc, bf_42, lgf_42, lgd_42, cnt, call, swf, fnf, fb, fk, fg, fl))) ∧ (¬ y_40 = 0 → (zxc bac y_8 = 0) ∧ (r_42 = (bc (zfo bcc bac bfc blc bf_42 y_8)) → P 1 (ccc, cac, cfc, clc, cf, bcc, bac, bfc, blc, bf_42, lgf_42, lgd_42, cnt, call, swf, fnf, fb, fk, fg, fl)) ∧ (¬ r_42 = (bc (zfo bcc bac bfc blc bf_42 y_8)) → P 0 (ccc, cac, cfc, clc, cf, bcc, bac, bfc, blc, bf_42, lgf_42, lgd_42, cnt, call, swf, fnf, fb, fk, fg, fl)))) ∧ (¬ y_40 = 0 → (vp_in y_8 12 ∧ vp_in (fg 2) 12) ∧ (y_40 = 0 → (r_42 = (-8) → P 1 (ccc, cac, cfc, clc, cf, bcc, bac, bfc, blc, bf_42, lgf_42, lgd_42, cnt, call, swf, fnf, upd fb y_8.toNatClampNeg y_38, fk, upd fg 2 (fg 2 + 1), upd fl (fg 2).toNatClampNeg y_8)) ∧ (¬ r_42 = (-8) → P 0 (ccc, cac, cfc, clc, cf, bcc, bac, bfc, blc, bf_42, lgf_42, lgd_42, cnt, call, swf, fnf, upd fb y_8.toNatClampNeg y_38, fk, upd fg 2 (fg 2 + 1), upd fl (fg 2).toNatClampNeg y_8))) ∧ (¬ y_40 = 0 → (zxc bac y_8 = 0) ∧ (r_42 = (bc (zfo bcc bac bfc blc bf_42 y_8)) → P 1 (ccc, cac, cfc, clc, cf, bcc, bac, bfc, blc, bf_42, lgf_42, lgd_42, cnt, call, swf, fnf, upd fb y_8.toNatClampNeg y_38, fk, upd fg 2 (fg 2 + 1), upd fl (fg 2).toNatClampNeg y_8)) ∧ (¬ r_42 = (bc (zfo bcc bac bfc blc bf_42 y_8)) → P 0 (ccc, cac, cfc, clc, cf, bcc, bac, bfc, blc, bf_42, lgf_42, lgd_42, cnt, call, swf, fnf, upd fb y_8.toNatClampNeg y_38, fk, upd fg 2 (fg 2 + 1), upd fl (fg 2).toNatClampNeg y_8))))) ∧ (¬ (p3 - p3 / 3 * 3) = 0 → ∀ y_23 : Int32, y_23 = 1 + ((p3 / 3) - (p3 / 3) / 4 * 4) → (zval bf ∧ zx2 bac y_8 y_23 = 0) ∧ ∀ y_25 : Int32, y_25 = b2i (zct bcc bac bfc blc bf y_8 y_23) → ((zval bf) ∧ (zxf bcc bac bfc blc bf y_8 y_23 = 0 ∨ zxf bcc bac bfc blc bf y_8 y_23 = 3)) ∧ ∀ (r_27 : Int32) (bf_27 : Nat → Int32) (lgf_27 : Nat → Int32) (lgd_27 : Int32), ((zxf bcc bac bfc blc bf y_8 y_23 = 0 → r_27 = bc (zfo bcc bac bfc blc (if zlg lgd then zwr bf y_8 y_23 else bf) y_8) ∧ bf_27 = (if zlg lgd then zwr bf y_8 y_23 else bf) ∧ lgf_27 = (if zlg lgd then upd lgf lgd.toNatClampNeg y_8 else lgf) ∧ lgd_27 = (if zlg lgd then lgd + 1 else lgd)) ∧ (¬ zxf bcc bac bfc blc bf y_8 y_23 = 0 → r_27 = -8 ∧ bf_27 = bf ∧ lgf_27 = lgf ∧ lgd_27 = lgd)) → (y_25 = 0 → (y_25 = 0 → (r_27 = (-8) → P 1 (ccc, cac, cfc, clc, cf, bcc, bac, bfc, blc, bf_27, lgf_27, lgd_27, cnt, call, swf, fnf, fb, fk, fg, fl)) ∧ (¬ r_27 = (-8) → P 0 (ccc, cac, cfc, clc, cf, bcc, bac, bfc, blc, bf_27, lgf_27, lgd_27, cnt, call, swf, fnf, fb, fk, fg, fl))) ∧ (¬ y_25 = 0 → (zxc bac y_8 = 0) ∧ (r_27 = (bc (zfo bcc bac bfc blc bf_27 y_8)) → P 1 (ccc, cac, cfc, clc, cf, bcc, bac, bfc, blc, bf_27, lgf_27, lgd_27, cnt, call, swf, fnf, fb, fk, fg, fl)) ∧ (¬ r_27 = (bc (zfo bcc bac bfc blc bf_27 y_8)) → P 0 (ccc, cac, cfc, clc, cf, bcc, bac, bfc, blc, bf_27, lgf_27, lgd_27, cnt, call, swf, fnf, fb, fk, fg, fl)))) ∧ (¬ y_25 = 0 → (vp_in y_8 12 ∧ vp_in (fg 2) 12) ∧ (y_25 = 0 → (r_27 = (-8) → P 1 (ccc, cac, cfc, clc, cf, bcc, bac, bfc, blc, bf_27, lgf_27, lgd_27, cnt, call, swf, fnf, upd fb y_8.toNatClampNeg y_23, fk, upd fg 2 (fg 2 + 1), upd fl (fg 2).toNatClampNeg y_8)) ∧ (¬ r_27 = (-8) → P 0 (ccc, cac, cfc, clc, cf, bcc, bac, bfc, blc, bf_27, lgf_27, lgd_27, cnt, call, swf, fnf, upd fb y_8.toNatClampNeg y_23, fk, upd fg 2 (fg 2 + 1), upd fl (fg 2).toNatClampNeg y_8))) ∧ (¬ y_25 = 0 → (zxc bac y_8 = 0) ∧ (r_27 = (bc (zfo bcc bac bfc blc bf_27 y_8)) → P 1 (ccc, cac, cfc, clc, cf, bcc, bac, bfc, blc, bf_27, lgf_27, lgd_27, cnt, call, swf, fnf, upd fb y_8.toNatClampNeg y_23, fk, upd fg 2 (fg 2 + 1), upd fl (fg 2).toNatClampNeg y_8)) ∧ (¬ r_27 = (bc (zfo bcc bac bfc blc bf_27 y_8)) → P 0 (ccc, cac, cfc, clc, cf, bcc, bac, bfc, blc, bf_27, lgf_27, lgd_27, cnt, call, swf, fnf, upd fb y_8.toNatClampNeg y_23, fk, upd fg 2 (fg 2 + 1), upd fl (fg 2).toNatClampNeg y_8)))))))) ∧ (¬ 3 ≤ p1 → ((p3 - p3 / 4 * 4) = 0 → (PI lgd ccc cac cfc clc cf bcc bac bfc blc bf lgf fb fk fg fl ∧ cel fg y_8 ∧ min3 0 0 9 = true) ∧ ∀ (bcc_61 : Int32) (bac_61 : Int32) (bfc_61 : Int32) (blc_61 : Int32) (bf_61 : Nat → Int32) (cf_61 : Nat → Int32) (lgd_61 : Int32) (fb_61 : Nat → Int32) (fk_61 : Nat → Int32) (fg_61 : Nat → Int32), (PI lgd_61 ccc cac cfc clc cf_61 bcc_61 bac_61 bfc_61 blc_61 bf_61 lgf fb_61 fk_61 fg_61 fl) → P 1 (ccc, cac, cfc, clc, cf_61, bcc_61, bac_61, bfc_61, blc_61, bf_61, lgf, lgd_61, cnt, call, swf, fnf, fb_61, fk_61, fg_61, fl)) ∧ (¬ (p3 - p3 / 4 * 4) = 0 → (PI lgd ccc cac cfc clc cf bcc bac bfc blc bf lgf fb fk fg fl ∧ cel fg y_8 ∧ min3 (1 + ((p3 / 4) - (p3 / 4) / 5 * 5)) 0 9 = true) ∧ ∀ (bcc_59 : Int32) (bac_59 : Int32) (bfc_59 : Int32) (blc_59 : Int32) (bf_59 : Nat → Int32) (cf_59 : Nat → Int32) (lgd_59 : Int32) (fb_59 : Nat → Int32) (fk_59 : Nat → Int32) (fg_59 : Nat → Int32), (PI lgd_59 ccc cac cfc clc cf_59 bcc_59 bac_59 bfc_59 blc_59 bf_59 lgf fb_59 fk_59 fg_59 fl) → P 1 (ccc, cac, cfc, clc, cf_59, bcc_59, bac_59, bfc_59, blc_59, bf_59, lgf, lgd_59, cnt, call, swf, fnf, fb_59, fk_59, fg_59, fl))))
def ve_L_draw (L : Nat) (xs : Nat → Int32) (p1 : Int32) (p2 : Int32) (P : Int32 → Unit → Prop)  : Prop := ((Int32.ofNat L) ≤ p1 → ∀ y_2 : Int32, y_2 = (919329249 * (p1 + 151)) + 1340192677 → ¬ p2 = 0 ∧ P ((y_2 &&& 2147483647) - (y_2 &&& 2147483647) / p2 * p2) ()) ∧ (¬ (Int32.ofNat L) ≤ p1 → vp_in p1 L ∧ ∀ y_5 : Int32, y_5 = xs p1.toNatClampNeg → ¬ p2 = 0 ∧ P ((y_5 &&& 2147483647) - (y_5 &&& 2147483647) / p2 * p2) ())
theorem and_31 (x : Int32) : ∃ j : Nat, j < 2 ^ 31 ∧ x &&& 2147483647 = nI j := pk_andE x 31 (by decide)
theorem pos_of {x : Int32} (h : (0 : Int32) < x) : ∃ d : Nat, 0 < d ∧ d < 2 ^ 31 ∧ x = nI d := by
  obtain ⟨d, hd, rfl⟩ := nI_of (x := x) (fun z => by rw [fx_lt] at z h; have e0 : (0 : Int32).toInt = 0 := rfl; omega)
  refine ⟨d, ?_, hd, rfl⟩
  rw [← nI_0] at h
  exact (nI_ltI (by decide) hd).mp h
theorem draw_in {x p2 : Int32} (h : (0 : Int32) < p2) : ¬ (x &&& 2147483647) - (x &&& 2147483647) / p2 * p2 < 0 ∧ (x &&& 2147483647) - (x &&& 2147483647) / p2 * p2 < p2 := by
  obtain ⟨j, hj, e⟩ := and_31 x
  obtain ⟨d, h0, hd, rfl⟩ := pos_of h
  rw [e, pk_rem hj h0 hd]
  have := Nat.mod_lt j h0
  exact ⟨nI_pos (by omega), (nI_ltI (by omega) hd).mpr this⟩
theorem ne_of_pos {x : Int32} (h : (0 : Int32) < x) : ¬ x = 0 := fun z => by rw [z] at h; exact absurd h (by decide)
theorem pe_L_draw (L : Nat) (xs : Nat → Int32) (p1 : Int32) (p2 : Int32) (hpre : ¬ p1 < 0 ∧ (0 : Int32) < p2 ∧ L ≤ 260) : ve_L_draw L xs p1 p2 (fun (r : Int32) (u : Unit) => (¬ r < 0 ∧ r < p2))  := by
  obtain ⟨h1, h2, h3⟩ := hpre
  obtain ⟨a, ha, rfl⟩ := nI_of h1
  refine ⟨fun c => ?_, fun c => ⟨?_, ?_⟩⟩
  · rintro y rfl
    exact ⟨ne_of_pos h2, draw_in h2⟩
  · have e : Int32.ofNat L = nI L := rfl
    rw [e] at c
    have c := k_nle (by omega) (by omega) c
    exact vp_in_nI c (by omega)
  · rintro y rfl
    exact ⟨ne_of_pos h2, draw_in h2⟩
/-! a step -/
theorem zxl_all : ∀ r, r < 5 → ∀ c, c < 5 → 2 ≤ r → 2 ≤ c → r * c ≤ 12 → zxl (nI r) (nI c) = 0 := by decide +kernel
theorem rem_k {a d : Nat} (ha : a < 2 ^ 31) (h0 : 0 < d) (hd : d < 2 ^ 31) : nI a - nI a / nI d * nI d = nI (a % d) := pk_rem ha h0 hd
theorem min3_v {v : Nat} (hv : v < 10) : min3 (nI v) 0 9 = true := by
  have : ∀ v, v < 10 → min3 (nI v) 0 9 = true := by decide +kernel
  exact this v hv
theorem min3_2 {v : Nat} (hv : v < 3) : min3 (nI v) 0 2 = true := by
  have : ∀ v, v < 3 → min3 (nI v) 0 2 = true := by decide +kernel
  exact this v hv
theorem one_add (a : Nat) : (1 : Int32) + nI a = nI (1 + a) := by rw [show (1 : Int32) = nI 1 from rfl, nI_add]
theorem two_add (a : Nat) : (2 : Int32) + nI a = nI (2 + a) := by rw [show (2 : Int32) = nI 2 from rfl, nI_add]
theorem sel_z (d : Nat → Int32) (j : Nat) : upd (sel (fun _ => 0) d j) j 0 = sel (fun _ => 0) d (j + 1) := sel_step (fun _ => 0) d j
theorem zxd_k {n : Nat} (h1 : 1 ≤ n) (h : n ≤ 12) : zxd (nI n) = 0 := by
  have : ∀ n, n < 13 → 1 ≤ n → zxd (nI n) = 0 := by decide +kernel
  exact this n (by omega) h1
section
variable {lgd : Int32} {bf cf lgf fb fk fg fl : Nat → Int32} {r c N n : Nat} {cl : Int32}
/-- what fill does, and what the law notes of it -/
theorem step_fill (hRB : RB (fg 0) (fg 1) r c N bf cf fb cl) (hkk : ∀ k, k < 12 → fk k = if bt cl k then 1 else 0) (hlg : lgd = nI n) (hfg : fg 2 = nI n) (hRL : RL_ N bf fb cl lgf fl n) {k v : Nat} (hk : k < N) (h1 : 1 ≤ v) (hv : v < 10) (rr : Int32) (bf2 lgf2 : Nat → Int32) (lgd2 : Int32)
    (hT : (zxf (fg 1) (zac (fg 0) (fg 1)) (zfc (fg 1) r) (zlc (fg 1) (zfc (fg 1) r)) bf (nI k) (nI v) = 0 → rr = bc (zfo (fg 1) (zac (fg 0) (fg 1)) (zfc (fg 1) r) (zlc (fg 1) (zfc (fg 1) r)) (if zlg lgd then zwr bf (nI k) (nI v) else bf) (nI k)) ∧ bf2 = (if zlg lgd then zwr bf (nI k) (nI v) else bf) ∧ lgf2 = (if zlg lgd then upd lgf lgd.toNatClampNeg (nI k) else lgf) ∧ lgd2 = (if zlg lgd then lgd + 1 else lgd)) ∧ (¬ zxf (fg 1) (zac (fg 0) (fg 1)) (zfc (fg 1) r) (zlc (fg 1) (zfc (fg 1) r)) bf (nI k) (nI v) = 0 → rr = -8 ∧ bf2 = bf ∧ lgf2 = lgf ∧ lgd2 = lgd)) :
    (zct (fg 1) (zac (fg 0) (fg 1)) (zfc (fg 1) r) (zlc (fg 1) (zfc (fg 1) r)) bf (nI k) (nI v) = false → rr = -8 ∧ PI lgd2 (fg 1) (zac (fg 0) (fg 1)) (zfc (fg 1) r) (zlc (fg 1) (zfc (fg 1) r)) cf (fg 1) (zac (fg 0) (fg 1)) (zfc (fg 1) r) (zlc (fg 1) (zfc (fg 1) r)) bf2 lgf2 fb fk fg fl) ∧
    (zct (fg 1) (zac (fg 0) (fg 1)) (zfc (fg 1) r) (zlc (fg 1) (zfc (fg 1) r)) bf (nI k) (nI v) = true → vp_in (fg 2) 12 ∧ rr = bc (zfo (fg 1) (zac (fg 0) (fg 1)) (zfc (fg 1) r) (zlc (fg 1) (zfc (fg 1) r)) bf2 (nI k)) ∧ PI lgd2 (fg 1) (zac (fg 0) (fg 1)) (zfc (fg 1) r) (zlc (fg 1) (zfc (fg 1) r)) cf (fg 1) (zac (fg 0) (fg 1)) (zfc (fg 1) r) (zlc (fg 1) (zfc (fg 1) r)) bf2 lgf2 (upd fb k (nI v)) fk (upd fg 2 (fg 2 + 1)) (upd fl (fg 2).toNatClampNeg (nI k))) := by
  obtain ⟨g, hF, hC, hb, hs, hsc, hcl⟩ := id hRB
  have hN := (gN g).2
  have hbN := bv_le hN hb
  have hX : zxf (fg 1) (zac (fg 0) (fg 1)) (zfc (fg 1) r) (zlc (fg 1) (zfc (fg 1) r)) bf (nI k) (nI v) = if zct (fg 1) (zac (fg 0) (fg 1)) (zfc (fg 1) r) (zlc (fg 1) (zfc (fg 1) r)) bf (nI k) (nI v) = true then 0 else 3 := by
    unfold zxf
    have e2 : zxn (nI v) = 0 := (zx2_0 (zx2_k g hk h1 hv)).2
    rw [if_neg (fun z => z (zxc_k g hk)), if_neg (fun z => z e2)]
  obtain ⟨hA, hB⟩ := hT
  refine ⟨fun hz => ?_, fun hz => ?_⟩
  · rw [hz, if_neg (by decide)] at hX
    obtain ⟨b1, b2, b3, b4⟩ := hB (by rw [hX]; decide)
    exact ⟨b1, r, c, N, n, cl, by rw [b2]; exact hRB, ⟨⟨rfl, rfl, rfl, rfl⟩, rfl, rfl, rfl, rfl⟩, hkk, b4.trans hlg, hfg, by rw [b2, b3]; exact hRL⟩
  · rw [hz, if_pos rfl] at hX
    obtain ⟨b1, b2, b3, b4⟩ := hA hX
    have hm : mft (fg 0) (fg 1) fb (fun _ => 0) (nI k) (nI v) = true := by rw [← zct_mft g hF hbN hs hk h1 hv]; exact hz
    have h0 := mft_0 (by omega) hm
    have hn := RL_lt g hF hRL hk h0
    have hzl : zlg lgd = true := by rw [hlg]; exact zlg_nI (by omega)
    rw [if_pos hzl] at b1 b2 b3 b4
    obtain ⟨f1, f2⟩ := fill_step hRB hRL hk h1 hv hm
    refine ⟨by rw [hfg]; exact vp_in_nI (by omega) (by decide), by rw [b2]; exact b1, r, c, N, n + 1, cl, by rw [b2]; exact f1, ⟨⟨rfl, rfl, rfl, rfl⟩, rfl, rfl, rfl, rfl⟩, hkk, by rw [b4, hlg]; exact nI_1 n, by rw [(upd_2 fg _).2.2, hfg]; exact nI_1 n, ?_⟩
    rw [b2, b3, hlg, hfg, nI_clamp (n := n) (by omega)]
    exact f2
end
def I_L_step_59 (lgd : Int32) (ccc : Int32) (cac : Int32) (cfc : Int32) (clc : Int32) (cf : Nat → Int32) (bcc : Int32) (bac : Int32) (bfc : Int32) (blc : Int32) (bf : Nat → Int32) (lgf : Nat → Int32) (cnt : Int32) (call : Int32) (swf : Nat → Int32) (fnf : Nat → Int32) (fb : Nat → Int32) (fk : Nat → Int32) (fg : Nat → Int32) (fl : Nat → Int32) (p1 : Int32) (p2 : Int32) (p3 : Int32) : Int32 → Int32 → Int32 → Int32 → Int32 → Int32 → (Nat → Int32) → Int32 → Int32 → Int32 → Int32 → (Nat → Int32) → (Nat → Int32) → Int32 → Int32 → Int32 → (Nat → Int32) → (Nat → Int32) → (Nat → Int32) → (Nat → Int32) → (Nat → Int32) → (Nat → Int32) → Prop := fun x8 x9 ccc' cac' cfc' clc' cf' bcc' bac' bfc' blc' bf' lgf' lgd' cnt' call' swf' fnf' fb' fk' fg' fl' => (∃ r c : Nat, gok (nI r) (nI c) r c (r * c) ∧ fg' = upd (upd (upd fg 0 (nI r)) 1 (nI c)) 2 0) ∧ ∃ j : Nat, j ≤ 12 ∧ x9 = nI j ∧ fb' = sel (fun _ => 0) fb j ∧ fk' = sel (fun _ => 0) fk j
def mu_L_step_59 (lgd : Int32) (ccc : Int32) (cac : Int32) (cfc : Int32) (clc : Int32) (cf : Nat → Int32) (bcc : Int32) (bac : Int32) (bfc : Int32) (blc : Int32) (bf : Nat → Int32) (lgf : Nat → Int32) (cnt : Int32) (call : Int32) (swf : Nat → Int32) (fnf : Nat → Int32) (fb : Nat → Int32) (fk : Nat → Int32) (fg : Nat → Int32) (fl : Nat → Int32) (p1 : Int32) (p2 : Int32) (p3 : Int32) : Int32 → Int32 → Int32 → Int32 → Int32 → Int32 → (Nat → Int32) → Int32 → Int32 → Int32 → Int32 → (Nat → Int32) → (Nat → Int32) → Int32 → Int32 → Int32 → (Nat → Int32) → (Nat → Int32) → (Nat → Int32) → (Nat → Int32) → (Nat → Int32) → (Nat → Int32) → Nat := fun x8 x9 ccc' cac' cfc' clc' cf' bcc' bac' bfc' blc' bf' lgf' lgd' cnt' call' swf' fnf' fb' fk' fg' fl' => 12 - x9.toNatClampNeg
theorem pl_L_step_59 (lgd : Int32) (ccc : Int32) (cac : Int32) (cfc : Int32) (clc : Int32) (cf : Nat → Int32) (bcc : Int32) (bac : Int32) (bfc : Int32) (blc : Int32) (bf : Nat → Int32) (lgf : Nat → Int32) (cnt : Int32) (call : Int32) (swf : Nat → Int32) (fnf : Nat → Int32) (fb : Nat → Int32) (fk : Nat → Int32) (fg : Nat → Int32) (fl : Nat → Int32) (p1 : Int32) (p2 : Int32) (p3 : Int32) (hpre : PI lgd ccc cac cfc clc cf bcc bac bfc blc bf lgf fb fk fg fl ∧ ¬ p1 < 0 ∧ ¬ p2 < 0 ∧ ¬ p3 < 0) : ∀ (x8 : Int32) (x9 : Int32) (ccc' : Int32) (cac' : Int32) (cfc' : Int32) (clc' : Int32) (cf' : Nat → Int32) (bcc' : Int32) (bac' : Int32) (bfc' : Int32) (blc' : Int32) (bf' : Nat → Int32) (lgf' : Nat → Int32) (lgd' : Int32) (cnt' : Int32) (call' : Int32) (swf' : Nat → Int32) (fnf' : Nat → Int32) (fb' : Nat → Int32) (fk' : Nat → Int32) (fg' : Nat → Int32) (fl' : Nat → Int32), I_L_step_59 lgd ccc cac cfc clc cf bcc bac bfc blc bf lgf cnt call swf fnf fb fk fg fl p1 p2 p3 x8 x9 ccc' cac' cfc' clc' cf' bcc' bac' bfc' blc' bf' lgf' lgd' cnt' call' swf' fnf' fb' fk' fg' fl' → vs_L_step_59 lgd ccc cac cfc clc cf bcc bac bfc blc bf lgf cnt call swf fnf fb fk fg fl p1 p2 p3 (fun (r : Int32) (u : Int32 × Int32 × Int32 × Int32 × (Nat → Int32) × Int32 × Int32 × Int32 × Int32 × (Nat → Int32) × (Nat → Int32) × Int32 × Int32 × Int32 × (Nat → Int32) × (Nat → Int32) × (Nat → Int32) × (Nat → Int32) × (Nat → Int32) × (Nat → Int32)) => r = 1 ∧ (PI u.2.2.2.2.2.2.2.2.2.2.2.1 u.1 u.2.1 u.2.2.1 u.2.2.2.1 u.2.2.2.2.1 u.2.2.2.2.2.1 u.2.2.2.2.2.2.1 u.2.2.2.2.2.2.2.1 u.2.2.2.2.2.2.2.2.1 u.2.2.2.2.2.2.2.2.2.1 u.2.2.2.2.2.2.2.2.2.2.1 u.2.2.2.2.2.2.2.2.2.2.2.2.2.2.2.2.1 u.2.2.2.2.2.2.2.2.2.2.2.2.2.2.2.2.2.1 u.2.2.2.2.2.2.2.2.2.2.2.2.2.2.2.2.2.2.1 u.2.2.2.2.2.2.2.2.2.2.2.2.2.2.2.2.2.2.2)) (fun (x89 : Int32) (x99 : Int32) (ccc9 : Int32) (cac9 : Int32) (cfc9 : Int32) (clc9 : Int32) (cf9 : Nat → Int32) (bcc9 : Int32) (bac9 : Int32) (bfc9 : Int32) (blc9 : Int32) (bf9 : Nat → Int32) (lgf9 : Nat → Int32) (lgd9 : Int32) (cnt9 : Int32) (call9 : Int32) (swf9 : Nat → Int32) (fnf9 : Nat → Int32) (fb9 : Nat → Int32) (fk9 : Nat → Int32) (fg9 : Nat → Int32) (fl9 : Nat → Int32) => I_L_step_59 lgd ccc cac cfc clc cf bcc bac bfc blc bf lgf cnt call swf fnf fb fk fg fl p1 p2 p3 x89 x99 ccc9 cac9 cfc9 clc9 cf9 bcc9 bac9 bfc9 blc9 bf9 lgf9 lgd9 cnt9 call9 swf9 fnf9 fb9 fk9 fg9 fl9 ∧ mu_L_step_59 lgd ccc cac cfc clc cf bcc bac bfc blc bf lgf cnt call swf fnf fb fk fg fl p1 p2 p3 x89 x99 ccc9 cac9 cfc9 clc9 cf9 bcc9 bac9 bfc9 blc9 bf9 lgf9 lgd9 cnt9 call9 swf9 fnf9 fb9 fk9 fg9 fl9 < mu_L_step_59 lgd ccc cac cfc clc cf bcc bac bfc blc bf lgf cnt call swf fnf fb fk fg fl p1 p2 p3 x8 x9 ccc' cac' cfc' clc' cf' bcc' bac' bfc' blc' bf' lgf' lgd' cnt' call' swf' fnf' fb' fk' fg' fl') x8 x9 ccc' cac' cfc' clc' cf' bcc' bac' bfc' blc' bf' lgf' lgd' cnt' call' swf' fnf' fb' fk' fg' fl' := by
  rintro x8 x9 ccc' cac' cfc' clc' cf' bcc' bac' bfc' blc' bf' lgf' lgd' cnt' call' swf' fnf' fb' fk' fg' fl' ⟨⟨r, c, g, rfl⟩, j, hj, rfl, rfl, rfl⟩
  have g0 : upd (upd (upd fg 0 (nI r)) 1 (nI c)) 2 0 0 = nI r := rfl
  have g1 : upd (upd (upd fg 0 (nI r)) 1 (nI c)) 2 0 1 = nI c := rfl
  obtain ⟨-, -, a1, a2, a3, a4, a5, a6⟩ := id g
  unfold vs_L_step_59
  rw [g0, g1, gbc g, gmul g, show (12 : Int32) = nI 12 from rfl]
  refine ⟨fun c0 => ⟨zxl_all r (by omega) c (by omega) a1 a3 a6, fun _ => ⟨rfl, ?_⟩, fun z => absurd rfl z⟩, fun c0 => ?_⟩
  · have c0 := k_le (by omega) (by omega) c0
    obtain rfl : j = 12 := by omega
    obtain ⟨z1, -, z3, -⟩ := blank_all g bf' cf' (sel (fun _ => 0) fb 12) (fun i hi => sel_at hi) lgf' fl'
    rw [nI_clamp (n := r) (by omega)]
    refine ⟨r, c, r * c, 0, 0, ?_, ⟨⟨rfl, rfl, rfl, rfl⟩, rfl, rfl, rfl, rfl⟩, fun i hi => ?_, rfl, rfl, z3⟩
    · exact z1
    · show sel (fun _ => 0) fk 12 i = _
      rw [sel_at hi, bt_0]; rfl
  · have hj12 := k_nle (by omega) (by omega) c0
    have hvj : vp_in (nI j) 12 := vp_in_nI hj12 (by decide)
    rw [nI_clamp (n := j) (by omega)]
    refine ⟨hvj, hvj, ?_⟩
    rintro y rfl
    exact ⟨⟨⟨r, c, g, rfl⟩, j + 1, by omega, nI_1 j, sel_z _ _, sel_z _ _⟩, hmu 12 hj12 (by decide)⟩
theorem gok_rc : ∀ r, r < 5 → ∀ c, c < 5 → 2 ≤ r → 2 ≤ c → r * c ≤ 12 → gok (nI r) (nI c) r c (r * c) := fun r h1 c h2 h3 h4 h5 => ⟨rfl, rfl, h3, by omega, h4, by omega, rfl, h5⟩
theorem pe_L_step (lgd : Int32) (ccc : Int32) (cac : Int32) (cfc : Int32) (clc : Int32) (cf : Nat → Int32) (bcc : Int32) (bac : Int32) (bfc : Int32) (blc : Int32) (bf : Nat → Int32) (lgf : Nat → Int32) (cnt : Int32) (call : Int32) (swf : Nat → Int32) (fnf : Nat → Int32) (fb : Nat → Int32) (fk : Nat → Int32) (fg : Nat → Int32) (fl : Nat → Int32) (p1 : Int32) (p2 : Int32) (p3 : Int32) (hpre : PI lgd ccc cac cfc clc cf bcc bac bfc blc bf lgf fb fk fg fl ∧ ¬ p1 < 0 ∧ ¬ p2 < 0 ∧ ¬ p3 < 0) : ve_L_step lgd ccc cac cfc clc cf bcc bac bfc blc bf lgf cnt call swf fnf fb fk fg fl p1 p2 p3 (fun (r : Int32) (u : Int32 × Int32 × Int32 × Int32 × (Nat → Int32) × Int32 × Int32 × Int32 × Int32 × (Nat → Int32) × (Nat → Int32) × Int32 × Int32 × Int32 × (Nat → Int32) × (Nat → Int32) × (Nat → Int32) × (Nat → Int32) × (Nat → Int32) × (Nat → Int32)) => r = 1 ∧ (PI u.2.2.2.2.2.2.2.2.2.2.2.1 u.1 u.2.1 u.2.2.1 u.2.2.2.1 u.2.2.2.2.1 u.2.2.2.2.2.1 u.2.2.2.2.2.2.1 u.2.2.2.2.2.2.2.1 u.2.2.2.2.2.2.2.2.1 u.2.2.2.2.2.2.2.2.2.1 u.2.2.2.2.2.2.2.2.2.2.1 u.2.2.2.2.2.2.2.2.2.2.2.2.2.2.2.2.1 u.2.2.2.2.2.2.2.2.2.2.2.2.2.2.2.2.2.1 u.2.2.2.2.2.2.2.2.2.2.2.2.2.2.2.2.2.2.1 u.2.2.2.2.2.2.2.2.2.2.2.2.2.2.2.2.2.2.2)) (I_L_step_59 lgd ccc cac cfc clc cf bcc bac bfc blc bf lgf cnt call swf fnf fb fk fg fl p1 p2 p3) := by
  obtain ⟨hPI, q1, q2, q3⟩ := hpre
  obtain ⟨w, hw, rfl⟩ := nI_of q1
  obtain ⟨x, hx, rfl⟩ := nI_of q2
  obtain ⟨y, hy, rfl⟩ := nI_of q3
  have hPI0 := hPI
  obtain ⟨r, c, N, n, cl, hRB, ⟨⟨rfl, rfl, rfl, rfl⟩, rfl, rfl, rfl, rfl⟩, hkk, hlg, hfg, hRL⟩ := hPI
  obtain ⟨g, hF, hC, hb, hs, hsc, hcl⟩ := id hRB
  have hN := gN g
  have em := gmN g
  have hPK : PK (fg 1) (zac (fg 0) (fg 1)) (zfc (fg 1) r) (zlc (fg 1) (zfc (fg 1) r)) cf (fg 1) (zac (fg 0) (fg 1)) (zfc (fg 1) r) (zlc (fg 1) (zfc (fg 1) r)) bf fb fk fg := ⟨r, c, N, cl, hRB, ⟨⟨rfl, rfl, rfl, rfl⟩, rfl, rfl, rfl, rfl⟩, hkk⟩
  unfold ve_L_step
  rw [gmul g]
  have n3 : (3 : Int32) = nI 3 := rfl
  have n4 : (4 : Int32) = nI 4 := rfl
  have n5 : (5 : Int32) = nI 5 := rfl
  have n8 : (8 : Int32) = nI 8 := rfl
  have n9 : (9 : Int32) = nI 9 := rfl
  have hdiv : ∀ d : Nat, 0 < d → d < 2 ^ 31 → nI y / nI d = nI (y / d) := fun d h0 hd => pk_div hy h0 hd
  have hyd : ∀ d : Nat, y / d < 2 ^ 31 := fun d => Nat.lt_of_le_of_lt (Nat.div_le_self y d) hy
  refine ⟨nI_ne0 (by omega) (by omega), ?_⟩
  rintro y8 ey8
  rw [rem_k hx (by omega) (by omega)] at ey8
  subst ey8
  have hk : x % N < N := Nat.mod_lt _ (by omega)
  have hcel : cel fg (nI (x % N)) := ⟨x % N, by rw [em]; exact hk, rfl⟩
  have hzv := zval_FB hN.2 hF
  have hvk : vp_in (nI (x % N)) 12 := vp_in_nI (by omega) (by decide)
  refine ⟨fun c0 => ?_, fun c0 => ⟨fun c1 => ⟨fun c2 => ⟨fun _ => ⟨rfl, hPI0⟩, fun _ => ⟨⟨hPK, q2⟩, fun a1 a2 a3 a4 a5 a6 a7 a8 a9 a10 a11 hr => ⟨rfl, hr fl⟩⟩⟩, fun c2 => ⟨fun c3 => ⟨fun c4 => ⟨⟨⟨fk, hPI0⟩, ?_⟩, fun a1 a2 a3 a4 a5 a6 a7 a8 a9 hr => ⟨rfl, hr fk hPI0⟩⟩, fun c4 => ⟨fun _ => ⟨rfl, hPI0⟩, fun c5 => ?_⟩⟩, fun c3 => ⟨fun c4 => ?_, fun c4 => ?_⟩⟩⟩, fun c1 => ⟨fun c2 => ⟨⟨hPI0, hcel, by decide⟩, fun a1 a2 a3 a4 a5 a6 a7 a8 a9 a10 hr => ⟨rfl, hr⟩⟩, fun c2 => ⟨⟨hPI0, hcel, ?_⟩, fun a1 a2 a3 a4 a5 a6 a7 a8 a9 a10 hr => ⟨rfl, hr⟩⟩⟩⟩⟩
  · -- a new board
    have e2 : (2 : Int32) = nI 2 := rfl
    have hx3 : x % 3 < 3 := Nat.mod_lt _ (by decide)
    rw [n3, rem_k hx (by decide) (by decide), two_add]
    have eu : upd fg 0 (nI (2 + x % 3)) 0 = nI (2 + x % 3) := rfl
    rw [eu]
    refine ⟨fun c1 => ?_, fun c1 => ?_⟩
    · rw [n4] at c1
      have c1 := nI_inj (by omega) (by decide) c1
      have hy2 : y % 2 < 2 := Nat.mod_lt _ (by decide)
      have ez : (2 : Int32) + (nI y - nI y / 2 * 2) = nI (2 + y % 2) := by
        rw [e2, rem_k hy (by decide) (by decide), nI_add]
      rw [ez]
      exact ⟨⟨2 + x % 3, 2 + y % 2, gok_rc _ (by omega) _ (by omega) (by omega) (by omega) (by rw [c1]; omega), rfl⟩, 0, Nat.zero_le _, rfl, (sel_0 _ _).symm, (sel_0 _ _).symm⟩
    · rw [n4] at c1
      have c1 : ¬ 2 + x % 3 = 4 := fun z => c1 (by rw [z])
      have hy3 : y % 3 < 3 := Nat.mod_lt _ (by decide)
      have ez : (2 : Int32) + (nI y - nI y / nI 3 * nI 3) = nI (2 + y % 3) := by
        rw [rem_k hy (by decide) (by decide), e2, nI_add]
      rw [ez]
      refine ⟨⟨2 + x % 3, 2 + y % 3, gok_rc _ (by omega) _ (by omega) (by omega) (by omega) ?_, rfl⟩, 0, Nat.zero_le _, rfl, (sel_0 _ _).symm, (sel_0 _ _).symm⟩
      have h1 : 2 + x % 3 ≤ 3 := by omega
      have h2 : 2 + y % 3 ≤ 4 := by omega
      exact Nat.le_trans (Nat.mul_le_mul h1 h2) (by decide)
  · rw [n3, rem_k hw (by decide) (by decide)]
    exact min3_2 (Nat.mod_lt _ (by decide))
  · -- undo
    have hn0 : ¬ n = 0 := fun z => c5 (by rw [hfg, z]; rfl)
    obtain ⟨m, rfl⟩ : ∃ m, n = m + 1 := ⟨n - 1, by omega⟩
    have hm12 : m + 1 ≤ 12 := by have := hRL.1; omega
    obtain ⟨k, hkN, l1, l2, f1, f2⟩ := off_step hRB hRL
    have hvm : vp_in (nI m) 12 := vp_in_nI (by omega) (by decide)
    rw [(upd_2 fg (fg 2 - 1)).2.2, hfg, nI_pred, hlg, nI_pred, nI_clamp (n := m) (by omega), l1, l2, nI_clamp (n := k) (by omega)]
    refine ⟨hvm, vp_in_nI (by omega) (by decide), zxd_k (by omega) hm12, hvm, fun _ => ⟨rfl, r, c, N, m, cl, f1, ⟨⟨rfl, rfl, rfl, rfl⟩, rfl, rfl, rfl, rfl⟩, hkk, rfl, rfl, f2⟩, fun z => absurd rfl z⟩
  · -- fill, up to 9
    rintro yv eyv
    have ev : yv = nI (1 + y / 3 % 9) := by
      rw [eyv, n3, hdiv 3 (by decide) (by decide), n9, rem_k (hyd 3) (by decide) (by decide), one_add]
    have h9 : y / 3 % 9 < 9 := Nat.mod_lt _ (by decide)
    subst ev
    have hT := step_fill (lgd := lgd) hRB hkk hlg hfg hRL hk (v := 1 + y / 3 % 9) (by omega) (by omega)
    have hz2 : zval bf ∧ zx2 (zac (fg 0) (fg 1)) (nI (x % N)) (nI (1 + y / 3 % 9)) = 0 := ⟨hzv, zx2_k g hk (by omega) (by omega)⟩
    refine ⟨hz2, ?_⟩
    rintro b eb
    refine ⟨⟨hzv, ?_⟩, fun rr bf2 lgf2 lgd2 hr => ?_⟩
    · unfold zxf
      have e2 : zxn (nI (1 + y / 3 % 9)) = 0 := (zx2_0 hz2.2).2
      rw [if_neg (fun z => z (zxc_k g hk)), if_neg (fun z => z e2)]
      split
      · exact Or.inl rfl
      · exact Or.inr rfl
    obtain ⟨t1, t2⟩ := hT rr bf2 lgf2 lgd2 hr
    rw [nI_clamp (n := x % N) (by omega)]
    refine ⟨fun d1 => ⟨fun _ => ?_, fun d2 => absurd d1 d2⟩, fun d1 => ?_⟩
    · rw [eb, b2i_eq0] at d1
      obtain ⟨u1, u2⟩ := t1 d1
      exact ⟨fun _ => ⟨rfl, u2⟩, fun z => absurd u1 z⟩
    · rw [eb, b2i_ne0] at d1
      obtain ⟨u0, u1, u2⟩ := t2 d1
      exact ⟨⟨hvk, u0⟩, fun d2 => absurd d2 (by rw [eb, d1]; decide), fun _ => ⟨zxc_k g hk, fun _ => ⟨rfl, u2⟩, fun z => absurd u1 z⟩⟩
  · -- fill, up to 4
    rintro yv eyv
    have ev : yv = nI (1 + y / 3 % 4) := by
      rw [eyv, n3, hdiv 3 (by decide) (by decide), n4, rem_k (hyd 3) (by decide) (by decide), one_add]
    have h9 : y / 3 % 4 < 4 := Nat.mod_lt _ (by decide)
    subst ev
    have hT := step_fill (lgd := lgd) hRB hkk hlg hfg hRL hk (v := 1 + y / 3 % 4) (by omega) (by omega)
    have hz2 : zval bf ∧ zx2 (zac (fg 0) (fg 1)) (nI (x % N)) (nI (1 + y / 3 % 4)) = 0 := ⟨hzv, zx2_k g hk (by omega) (by omega)⟩
    refine ⟨hz2, ?_⟩
    rintro b eb
    refine ⟨⟨hzv, ?_⟩, fun rr bf2 lgf2 lgd2 hr => ?_⟩
    · unfold zxf
      have e2 : zxn (nI (1 + y / 3 % 4)) = 0 := (zx2_0 hz2.2).2
      rw [if_neg (fun z => z (zxc_k g hk)), if_neg (fun z => z e2)]
      split
      · exact Or.inl rfl
      · exact Or.inr rfl
    obtain ⟨t1, t2⟩ := hT rr bf2 lgf2 lgd2 hr
    rw [nI_clamp (n := x % N) (by omega)]
    refine ⟨fun d1 => ⟨fun _ => ?_, fun d2 => absurd d1 d2⟩, fun d1 => ?_⟩
    · rw [eb, b2i_eq0] at d1
      obtain ⟨u1, u2⟩ := t1 d1
      exact ⟨fun _ => ⟨rfl, u2⟩, fun z => absurd u1 z⟩
    · rw [eb, b2i_ne0] at d1
      obtain ⟨u0, u1, u2⟩ := t2 d1
      exact ⟨⟨hvk, u0⟩, fun d2 => absurd d2 (by rw [eb, d1]; decide), fun _ => ⟨zxc_k g hk, fun _ => ⟨rfl, u2⟩, fun z => absurd u1 z⟩⟩
  · rw [n4, hdiv 4 (by decide) (by decide), n5, rem_k (hyd 4) (by decide) (by decide), one_add]
    have : y / 4 % 5 < 5 := Nat.mod_lt _ (by decide)
    exact min3_v (by omega)
