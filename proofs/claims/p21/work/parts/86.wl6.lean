set_option maxHeartbeats 4000000 in
set_option maxRecDepth 100000 in
theorem a_L_step (l : Launch) (hst : l.stackTraces = false) (D : va_G) (cI : ClassId) (xh ch ca bh ba lg sh sa vh va qb qk qg ql : Nat) (sz : Nat) (lgd : Int32) (ccc : Int32) (cac : Int32) (cfc : Int32) (clc : Int32) (cf : Nat → Int32) (bcc : Int32) (bac : Int32) (bfc : Int32) (blc : Int32) (bf : Nat → Int32) (lgf : Nat → Int32) (cnt : Int32) (call : Int32) (swf : Nat → Int32) (fnf : Nat → Int32) (fb : Nat → Int32) (fk : Nat → Int32) (fg : Nat → Int32) (fl : Nat → Int32) (p1 : Int32) (p2 : Int32) (p3 : Int32) (P : Int32 → (Int32 × Int32 × Int32 × Int32 × (Nat → Int32) × Int32 × Int32 × Int32 × Int32 × (Nat → Int32) × (Nat → Int32) × Int32 × Int32 × Int32 × (Nat → Int32) × (Nat → Int32) × (Nat → Int32) × (Nat → Int32) × (Nat → Int32) × (Nat → Int32)) → Prop) (I59 : Int32 → Int32 → Int32 → Int32 → Int32 → Int32 → (Nat → Int32) → Int32 → Int32 → Int32 → Int32 → (Nat → Int32) → (Nat → Int32) → Int32 → Int32 → Int32 → (Nat → Int32) → (Nat → Int32) → (Nat → Int32) → (Nat → Int32) → (Nat → Int32) → (Nat → Int32) → Prop) (mu59 : Int32 → Int32 → Int32 → Int32 → Int32 → Int32 → (Nat → Int32) → Int32 → Int32 → Int32 → Int32 → (Nat → Int32) → (Nat → Int32) → Int32 → Int32 → Int32 → (Nat → Int32) → (Nat → Int32) → (Nat → Int32) → (Nat → Int32) → (Nat → Int32) → (Nat → Int32) → Nat) (hv59 : ∀ (x8 : Int32) (x9 : Int32) (ccc' : Int32) (cac' : Int32) (cfc' : Int32) (clc' : Int32) (cf' : Nat → Int32) (bcc' : Int32) (bac' : Int32) (bfc' : Int32) (blc' : Int32) (bf' : Nat → Int32) (lgf' : Nat → Int32) (lgd' : Int32) (cnt' : Int32) (call' : Int32) (swf' : Nat → Int32) (fnf' : Nat → Int32) (fb' : Nat → Int32) (fk' : Nat → Int32) (fg' : Nat → Int32) (fl' : Nat → Int32), I59 x8 x9 ccc' cac' cfc' clc' cf' bcc' bac' bfc' blc' bf' lgf' lgd' cnt' call' swf' fnf' fb' fk' fg' fl' → vs_L_step_59 lgd ccc cac cfc clc cf bcc bac bfc blc bf lgf cnt call swf fnf fb fk fg fl p1 p2 p3 P (fun (x89 : Int32) (x99 : Int32) (ccc9 : Int32) (cac9 : Int32) (cfc9 : Int32) (clc9 : Int32) (cf9 : Nat → Int32) (bcc9 : Int32) (bac9 : Int32) (bfc9 : Int32) (blc9 : Int32) (bf9 : Nat → Int32) (lgf9 : Nat → Int32) (lgd9 : Int32) (cnt9 : Int32) (call9 : Int32) (swf9 : Nat → Int32) (fnf9 : Nat → Int32) (fb9 : Nat → Int32) (fk9 : Nat → Int32) (fg9 : Nat → Int32) (fl9 : Nat → Int32) => I59 x89 x99 ccc9 cac9 cfc9 clc9 cf9 bcc9 bac9 bfc9 blc9 bf9 lgf9 lgd9 cnt9 call9 swf9 fnf9 fb9 fk9 fg9 fl9 ∧ mu59 x89 x99 ccc9 cac9 cfc9 clc9 cf9 bcc9 bac9 bfc9 blc9 bf9 lgf9 lgd9 cnt9 call9 swf9 fnf9 fb9 fk9 fg9 fl9 < mu59 x8 x9 ccc' cac' cfc' clc' cf' bcc' bac' bfc' blc' bf' lgf' lgd' cnt' call' swf' fnf' fb' fk' fg' fl') x8 x9 ccc' cac' cfc' clc' cf' bcc' bac' bfc' blc' bf' lgf' lgd' cnt' call' swf' fnf' fb' fk' fg' fl') (he : ve_L_step lgd ccc cac cfc clc cf bcc bac bfc blc bf lgf cnt call swf fnf fb fk fg fl p1 p2 p3 P I59) : Met l yL_step wsL_step ({ frames := 40, cells := 4, slots := 30, locals := 1079 } : Room) (ffx_Pc D [(cI, .int)] [.ref xh, .int p1, .int p2, .int p3, .ref qb, .ref qk, .ref qg, .ref ql] ([(xh, .inr (4, [.ref ch, .ref bh, .ref lg, .int lgd, .ref sh, .ref vh])), (ch, .inr (0, [.ref ca, .int ccc, .int cac, .int cfc, .int clc])), (ca, .inl (cI, 10, .inl cf)), (bh, .inr (0, [.ref ba, .int bcc, .int bac, .int bfc, .int blc])), (ba, .inl (cI, 10, .inl bf)), (lg, .inl (cI, 12, .inl lgf)), (sh, .inr (2, [.ref sa, .int cnt, .int call])), (sa, .inl (cI, 12, .inl swf)), (vh, .inr (3, [.ref va])), (va, .inl (cI, 12, .inl fnf)), (qb, .inl (cI, 12, .inl fb)), (qk, .inl (cI, 12, .inl fk)), (qg, .inl (cI, 3, .inl fg)), (ql, .inl (cI, 12, .inl fl))] : va_W) sz) (va_Qi P (fun (u : Int32 × Int32 × Int32 × Int32 × (Nat → Int32) × Int32 × Int32 × Int32 × Int32 × (Nat → Int32) × (Nat → Int32) × Int32 × Int32 × Int32 × (Nat → Int32) × (Nat → Int32) × (Nat → Int32) × (Nat → Int32) × (Nat → Int32) × (Nat → Int32)) t => ff_B D [(cI, .int)] (va_A ([(xh, .inr (4, [.ref ch, .ref bh, .ref lg, .int lgd, .ref sh, .ref vh])), (ch, .inr (0, [.ref ca, .int ccc, .int cac, .int cfc, .int clc])), (ca, .inl (cI, 10, .inl cf)), (bh, .inr (0, [.ref ba, .int bcc, .int bac, .int bfc, .int blc])), (ba, .inl (cI, 10, .inl bf)), (lg, .inl (cI, 12, .inl lgf)), (sh, .inr (2, [.ref sa, .int cnt, .int call])), (sa, .inl (cI, 12, .inl swf)), (vh, .inr (3, [.ref va])), (va, .inl (cI, 12, .inl fnf)), (qb, .inl (cI, 12, .inl fb)), (qk, .inl (cI, 12, .inl fk)), (qg, .inl (cI, 3, .inl fg)), (ql, .inl (cI, 12, .inl fl))] : va_W) sz) [(xh, .inr (4, [.ref ch, .ref bh, .ref lg, .int (u.2.2.2.2.2.2.2.2.2.2.2.1), .ref sh, .ref vh])), (ch, .inr (0, [.ref ca, .int (u.1), .int (u.2.1), .int (u.2.2.1), .int (u.2.2.2.1)])), (ca, .inl (cI, 10, .inl (u.2.2.2.2.1))), (bh, .inr (0, [.ref ba, .int (u.2.2.2.2.2.1), .int (u.2.2.2.2.2.2.1), .int (u.2.2.2.2.2.2.2.1), .int (u.2.2.2.2.2.2.2.2.1)])), (ba, .inl (cI, 10, .inl (u.2.2.2.2.2.2.2.2.2.1))), (lg, .inl (cI, 12, .inl (u.2.2.2.2.2.2.2.2.2.2.1))), (sh, .inr (2, [.ref sa, .int (u.2.2.2.2.2.2.2.2.2.2.2.2.1), .int (u.2.2.2.2.2.2.2.2.2.2.2.2.2.1)])), (sa, .inl (cI, 12, .inl (u.2.2.2.2.2.2.2.2.2.2.2.2.2.2.1))), (vh, .inr (3, [.ref va])), (va, .inl (cI, 12, .inl (u.2.2.2.2.2.2.2.2.2.2.2.2.2.2.2.1))), (qb, .inl (cI, 12, .inl (u.2.2.2.2.2.2.2.2.2.2.2.2.2.2.2.2.1))), (qk, .inl (cI, 12, .inl (u.2.2.2.2.2.2.2.2.2.2.2.2.2.2.2.2.2.1))), (qg, .inl (cI, 3, .inl (u.2.2.2.2.2.2.2.2.2.2.2.2.2.2.2.2.2.2.1))), (ql, .inl (cI, 12, .inl (u.2.2.2.2.2.2.2.2.2.2.2.2.2.2.2.2.2.2.2)))] t) (va_A ([(xh, .inr (4, [.ref ch, .ref bh, .ref lg, .int lgd, .ref sh, .ref vh])), (ch, .inr (0, [.ref ca, .int ccc, .int cac, .int cfc, .int clc])), (ca, .inl (cI, 10, .inl cf)), (bh, .inr (0, [.ref ba, .int bcc, .int bac, .int bfc, .int blc])), (ba, .inl (cI, 10, .inl bf)), (lg, .inl (cI, 12, .inl lgf)), (sh, .inr (2, [.ref sa, .int cnt, .int call])), (sa, .inl (cI, 12, .inl swf)), (vh, .inr (3, [.ref va])), (va, .inl (cI, 12, .inl fnf)), (qb, .inl (cI, 12, .inl fb)), (qk, .inl (cI, 12, .inl fk)), (qg, .inl (cI, 3, .inl fg)), (ql, .inl (cI, 12, .inl fl))] : va_W) sz)) 4 30 (va_A ([(xh, .inr (4, [.ref ch, .ref bh, .ref lg, .int lgd, .ref sh, .ref vh])), (ch, .inr (0, [.ref ca, .int ccc, .int cac, .int cfc, .int clc])), (ca, .inl (cI, 10, .inl cf)), (bh, .inr (0, [.ref ba, .int bcc, .int bac, .int bfc, .int blc])), (ba, .inl (cI, 10, .inl bf)), (lg, .inl (cI, 12, .inl lgf)), (sh, .inr (2, [.ref sa, .int cnt, .int call])), (sa, .inl (cI, 12, .inl swf)), (vh, .inr (3, [.ref va])), (va, .inl (cI, 12, .inl fnf)), (qb, .inl (cI, 12, .inl fb)), (qk, .inl (cI, 12, .inl fk)), (qg, .inl (cI, 3, .inl fg)), (ql, .inl (cI, 12, .inl fl))] : va_W) sz) := by
  refine ffn_metZ (Wf := (fun (u : Int32 × Int32 × Int32 × Int32 × (Nat → Int32) × Int32 × Int32 × Int32 × Int32 × (Nat → Int32) × (Nat → Int32) × Int32 × Int32 × Int32 × (Nat → Int32) × (Nat → Int32) × (Nat → Int32) × (Nat → Int32) × (Nat → Int32) × (Nat → Int32)) => ([(xh, .inr (4, [.ref ch, .ref bh, .ref lg, .int (u.2.2.2.2.2.2.2.2.2.2.2.1), .ref sh, .ref vh])), (ch, .inr (0, [.ref ca, .int (u.1), .int (u.2.1), .int (u.2.2.1), .int (u.2.2.2.1)])), (ca, .inl (cI, 10, .inl (u.2.2.2.2.1))), (bh, .inr (0, [.ref ba, .int (u.2.2.2.2.2.1), .int (u.2.2.2.2.2.2.1), .int (u.2.2.2.2.2.2.2.1), .int (u.2.2.2.2.2.2.2.2.1)])), (ba, .inl (cI, 10, .inl (u.2.2.2.2.2.2.2.2.2.1))), (lg, .inl (cI, 12, .inl (u.2.2.2.2.2.2.2.2.2.2.1))), (sh, .inr (2, [.ref sa, .int (u.2.2.2.2.2.2.2.2.2.2.2.2.1), .int (u.2.2.2.2.2.2.2.2.2.2.2.2.2.1)])), (sa, .inl (cI, 12, .inl (u.2.2.2.2.2.2.2.2.2.2.2.2.2.2.1))), (vh, .inr (3, [.ref va])), (va, .inl (cI, 12, .inl (u.2.2.2.2.2.2.2.2.2.2.2.2.2.2.2.1))), (qb, .inl (cI, 12, .inl (u.2.2.2.2.2.2.2.2.2.2.2.2.2.2.2.2.1))), (qk, .inl (cI, 12, .inl (u.2.2.2.2.2.2.2.2.2.2.2.2.2.2.2.2.2.1))), (qg, .inl (cI, 3, .inl (u.2.2.2.2.2.2.2.2.2.2.2.2.2.2.2.2.2.2.1))), (ql, .inl (cI, 12, .inl (u.2.2.2.2.2.2.2.2.2.2.2.2.2.2.2.2.2.2.2)))] : va_W))) (by decide +kernel) rfl (Nat.le_of_ble_eq_true rfl) ?_
  intro p e s m args below meth c A Q ls H hx hb hml hown hts hN hZ hA hK hP hD hS hret hl
  have L59 : ∀ (N : Nat) (x8 : Int32) (x9 : Int32) (ccc' : Int32) (cac' : Int32) (cfc' : Int32) (clc' : Int32) (cf' : Nat → Int32) (bcc' : Int32) (bac' : Int32) (bfc' : Int32) (blc' : Int32) (bf' : Nat → Int32) (lgf' : Nat → Int32) (lgd' : Int32) (cnt' : Int32) (call' : Int32) (swf' : Nat → Int32) (fnf' : Nat → Int32) (fb' : Nat → Int32) (fk' : Nat → Int32) (fg' : Nat → Int32) (fl' : Nat → Int32) (H : Heap) (locs : List Loc) (ls : Array Slot), I59 x8 x9 ccc' cac' cfc' clc' cf' bcc' bac' bfc' blc' bf' lgf' lgd' cnt' call' swf' fnf' fb' fk' fg' fl' → mu59 x8 x9 ccc' cac' cfc' clc' cf' bcc' bac' bfc' blc' bf' lgf' lgd' cnt' call' swf' fnf' fb' fk' fg' fl' < N → va_P D vwCl [(xh, .inr (4, [.ref ch, .ref bh, .ref lg, .int lgd', .ref sh, .ref vh])), (ch, .inr (0, [.ref ca, .int ccc', .int cac', .int cfc', .int clc'])), (ca, .inl (cI, 10, .inl cf')), (bh, .inr (0, [.ref ba, .int bcc', .int bac', .int bfc', .int blc'])), (ba, .inl (cI, 10, .inl bf')), (lg, .inl (cI, 12, .inl lgf')), (sh, .inr (2, [.ref sa, .int cnt', .int call'])), (sa, .inl (cI, 12, .inl swf')), (vh, .inr (3, [.ref va])), (va, .inl (cI, 12, .inl fnf')), (qb, .inl (cI, 12, .inl fb')), (qk, .inl (cI, 12, .inl fk')), (qg, .inl (cI, 3, .inl fg')), (ql, .inl (cI, 12, .inl fl'))] H → va_D A [(xh, .inr (4, [.ref ch, .ref bh, .ref lg, .int lgd', .ref sh, .ref vh])), (ch, .inr (0, [.ref ca, .int ccc', .int cac', .int cfc', .int clc'])), (ca, .inl (cI, 10, .inl cf')), (bh, .inr (0, [.ref ba, .int bcc', .int bac', .int bfc', .int blc'])), (ba, .inl (cI, 10, .inl bf')), (lg, .inl (cI, 12, .inl lgf')), (sh, .inr (2, [.ref sa, .int cnt', .int call'])), (sa, .inl (cI, 12, .inl swf')), (vh, .inr (3, [.ref va])), (va, .inl (cI, 12, .inl fnf')), (qb, .inl (cI, 12, .inl fb')), (qk, .inl (cI, 12, .inl fk')), (qg, .inl (cI, 3, .inl fg')), (ql, .inl (cI, 12, .inl fl'))] → va_S A s.heap H locs → lv_has ls 12 [(0, .ref xh), (1, .int p1), (2, .int p2), (3, .int p3), (4, .ref qb), (5, .ref qk), (6, .ref qg), (7, .ref ql), (8, .int x8), (9, .int x9)] → W p l e ({ frames := 40, cells := 4, slots := 30, locals := 1079 } : Room) s m args below meth c H locs 0 0 Q (F0 m 59 ls []) := by
    intro N
    induction N with
    | zero => intros; rename_i hz _ _ _ _; exact absurd hz (Nat.not_lt_zero _)
    | succ N ih =>
      intro x8 x9 ccc' cac' cfc' clc' cf' bcc' bac' bfc' blc' bf' lgf' lgd' cnt' call' swf' fnf' fb' fk' fg' fl' H locs ls hI hmu hP hD hS hl
      have h := hv59 x8 x9 ccc' cac' cfc' clc' cf' bcc' bac' bfc' blc' bf' lgf' lgd' cnt' call' swf' fnf' fb' fk' fg' fl' hI
      unfold vs_L_step_59 at h
      refine lv_iload hx hb dL_step_59 (lv_at hl 9 rfl) ?_
      refine lv_bipush (v := 12) hx hb dL_step_61 (by decide) ?_
      refine lv_icmp_ge (tgt := 84) hx hb dL_step_63 (by decide) (fun c_1 => ?_) (fun c_1 => ?_)
      · have h := h.1 c_1
        refine lv_aload_n hx hb dL_step_84 rfl (lv_at hl 0 rfl) ?_
        refine lv_aload hx hb dL_step_85 (lv_at hl 6 rfl) ?_
        refine lv_iconst (v := 0) hx hb dL_step_87 (by decide) ?_
        refine ff_ialdK hx hb hK hP 12 0 rfl rfl (vp_in_nI (n := 0) (N := 3) (by decide) (by decide)) (k := 0) rfl dL_step_88 ?_
        refine lv_aload hx hb dL_step_89 (lv_at hl 6 rfl) ?_
        refine lv_iconst (v := 1) hx hb dL_step_91 (by decide) ?_
        refine ff_ialdK hx hb hK hP 12 0 rfl rfl (vp_in_nI (n := 1) (N := 3) (by decide) (by decide)) (k := 1) rfl dL_step_92 ?_
        obtain ⟨p_2, h⟩ := h
        have hPc := hP.sub (ws' := [(xh, .inr (4, [.ref ch, .ref bh, .ref lg, .int lgd', .ref sh, .ref vh])), (ch, .inr (0, [.ref ca, .int ccc', .int cac', .int cfc', .int clc'])), (ca, .inl (cI, 10, .inl cf')), (bh, .inr (0, [.ref ba, .int bcc', .int bac', .int bfc', .int blc'])), (ba, .inl (cI, 10, .inl bf')), (lg, .inl (cI, 12, .inl lgf')), (sh, .inr (2, [.ref sa, .int cnt', .int call'])), (sa, .inl (cI, 12, .inl swf')), (vh, .inr (3, [.ref va])), (va, .inl (cI, 12, .inl fnf'))]) [0, 1, 2, 3, 4, 5, 6, 7, 8, 9] rfl
        have hDc := hD.sub (ws' := [(xh, .inr (4, [.ref ch, .ref bh, .ref lg, .int lgd', .ref sh, .ref vh])), (ch, .inr (0, [.ref ca, .int ccc', .int cac', .int cfc', .int clc'])), (ca, .inl (cI, 10, .inl cf')), (bh, .inr (0, [.ref ba, .int bcc', .int bac', .int bfc', .int blc'])), (ba, .inl (cI, 10, .inl bf')), (lg, .inl (cI, 12, .inl lgf')), (sh, .inr (2, [.ref sa, .int cnt', .int call'])), (sa, .inl (cI, 12, .inl swf')), (vh, .inr (3, [.ref va])), (va, .inl (cI, 12, .inl fnf'))]) [0, 1, 2, 3, 4, 5, 6, 7, 8, 9] (by decide) rfl
        refine ff_callI (va_runV (As := [.int (fg' 0), .int (fg' 1)]) (rest := []) ⟨hx, hb, hml, hown, hts⟩ (c_X4_layN l D cI xh ch ca bh ba lg sh sa vh va H.size lgd' ccc' cac' cfc' clc' cf' bcc' bac' bfc' blc' bf' lgf' cnt' call' swf' fnf' (fg' 0) (fg' 1) p_2) (cwV 2 hts gL_step_X4_lay rfl rfl rfl (by decide +kernel) ⟨Nat.le_of_ble_eq_true rfl, Nat.le_of_ble_eq_true rfl⟩) (ff_preV (q := (RX4, TX4, 6)) (ci := 4) (q0 := 0) hPc hK hDc hN rfl rfl) rfl rfl hl.1 rfl (lv_room (Nat.le_of_ble_eq_true rfl)) dL_step_93 ⟨Nat.le_of_ble_eq_true rfl, Nat.le_of_ble_eq_true rfl⟩) hP hD hS hA [0, 1, 2, 3, 4, 5, 6, 7, 8, 9] [10, 11, 12, 13] (wr := [(qb, .inl (cI, 12, .inl fb')), (qk, .inl (cI, 12, .inl fk')), (qg, .inl (cI, 3, .inl fg')), (ql, .inl (cI, 12, .inl fl'))]) rfl rfl (by decide) (by decide) (fun r u H locs hw hP hD hS => ?_)
        obtain ⟨e0_w, e1_w⟩ := hw
        replace e0_w := e0_w.symm
        subst e0_w
        replace e1_w := e1_w.symm
        subst e1_w
        have hP : va_P D vwCl [(qb, .inl (cI, 12, .inl fb')), (qk, .inl (cI, 12, .inl fk')), (qg, .inl (cI, 3, .inl fg')), (ql, .inl (cI, 12, .inl fl')), (xh, .inr (4, [.ref ch, .ref bh, .ref lg, .int 0, .ref sh, .ref vh])), (ch, .inr (0, [.ref ca, .int (fg' 1), .int (zac (fg' 0) (fg' 1)), .int (zfc (fg' 1) (fg' 0).toNatClampNeg), .int (zlc (fg' 1) (zfc (fg' 1) (fg' 0).toNatClampNeg))])), (ca, .inl (cI, 10, .inl (zem cf' (zac (fg' 0) (fg' 1))))), (bh, .inr (0, [.ref ba, .int (fg' 1), .int (zac (fg' 0) (fg' 1)), .int (zfc (fg' 1) (fg' 0).toNatClampNeg), .int (zlc (fg' 1) (zfc (fg' 1) (fg' 0).toNatClampNeg))])), (ba, .inl (cI, 10, .inl (zcp bf' (zem cf' (zac (fg' 0) (fg' 1)))))), (lg, .inl (cI, 12, .inl lgf')), (sh, .inr (2, [.ref sa, .int cnt', .int call'])), (sa, .inl (cI, 12, .inl swf')), (vh, .inr (3, [.ref va])), (va, .inl (cI, 12, .inl fnf'))] H := hP
        have hD : va_D A [(qb, .inl (cI, 12, .inl fb')), (qk, .inl (cI, 12, .inl fk')), (qg, .inl (cI, 3, .inl fg')), (ql, .inl (cI, 12, .inl fl')), (xh, .inr (4, [.ref ch, .ref bh, .ref lg, .int 0, .ref sh, .ref vh])), (ch, .inr (0, [.ref ca, .int (fg' 1), .int (zac (fg' 0) (fg' 1)), .int (zfc (fg' 1) (fg' 0).toNatClampNeg), .int (zlc (fg' 1) (zfc (fg' 1) (fg' 0).toNatClampNeg))])), (ca, .inl (cI, 10, .inl (zem cf' (zac (fg' 0) (fg' 1))))), (bh, .inr (0, [.ref ba, .int (fg' 1), .int (zac (fg' 0) (fg' 1)), .int (zfc (fg' 1) (fg' 0).toNatClampNeg), .int (zlc (fg' 1) (zfc (fg' 1) (fg' 0).toNatClampNeg))])), (ba, .inl (cI, 10, .inl (zcp bf' (zem cf' (zac (fg' 0) (fg' 1)))))), (lg, .inl (cI, 12, .inl lgf')), (sh, .inr (2, [.ref sa, .int cnt', .int call'])), (sa, .inl (cI, 12, .inl swf')), (vh, .inr (3, [.ref va])), (va, .inl (cI, 12, .inl fnf'))] := hD
        refine lv_aload hx hb dL_step_96 (lv_at hl 6 rfl) ?_
        refine lv_iconst (v := 0) hx hb dL_step_98 (by decide) ?_
        refine ff_ialdK hx hb hK hP 2 0 rfl rfl (vp_in_nI (n := 0) (N := 3) (by decide) (by decide)) (k := 0) rfl dL_step_99 ?_
        refine lv_aload hx hb dL_step_100 (lv_at hl 6 rfl) ?_
        refine lv_iconst (v := 1) hx hb dL_step_102 (by decide) ?_
        refine ff_ialdK hx hb hK hP 2 0 rfl rfl (vp_in_nI (n := 1) (N := 3) (by decide) (by decide)) (k := 1) rfl dL_step_103 ?_
        refine lv_imul hx hb dL_step_104 ?_
        refine lv_icmp_ne (tgt := 112) hx hb dL_step_105 (by decide) (fun c_3 => ?_) (fun c_3 => ?_)
        · have h := h.2 c_3
          refine lv_iconst (v := 0) hx hb dL_step_112 (by decide) ?_
          exact hret 0 ((fg' 1), zac (fg' 0) (fg' 1), zfc (fg' 1) (fg' 0).toNatClampNeg, zlc (fg' 1) (zfc (fg' 1) (fg' 0).toNatClampNeg), zem cf' (zac (fg' 0) (fg' 1)), (fg' 1), zac (fg' 0) (fg' 1), zfc (fg' 1) (fg' 0).toNatClampNeg, zlc (fg' 1) (zfc (fg' 1) (fg' 0).toNatClampNeg), zcp bf' (zem cf' (zac (fg' 0) (fg' 1))), lgf', 0, cnt', call', swf', fnf', fb', fk', fg', fl') _ _ _ _ _ _ (by decide) h (hP.sub [4, 5, 6, 7, 8, 9, 10, 11, 12, 13, 0, 1, 2, 3] rfl) (hD.sub [4, 5, 6, 7, 8, 9, 10, 11, 12, 13, 0, 1, 2, 3] (by decide) rfl) hS (Nat.le_of_ble_eq_true rfl) (Nat.le_of_ble_eq_true rfl) dL_step_113
        · have h := h.1 c_3
          refine lv_iconst (v := 1) hx hb dL_step_108 (by decide) ?_
          refine lv_goto (tgt := 113) hx hb dL_step_109 (by decide) ?_
          exact hret 1 ((fg' 1), zac (fg' 0) (fg' 1), zfc (fg' 1) (fg' 0).toNatClampNeg, zlc (fg' 1) (zfc (fg' 1) (fg' 0).toNatClampNeg), zem cf' (zac (fg' 0) (fg' 1)), (fg' 1), zac (fg' 0) (fg' 1), zfc (fg' 1) (fg' 0).toNatClampNeg, zlc (fg' 1) (zfc (fg' 1) (fg' 0).toNatClampNeg), zcp bf' (zem cf' (zac (fg' 0) (fg' 1))), lgf', 0, cnt', call', swf', fnf', fb', fk', fg', fl') _ _ _ _ _ _ (by decide) h (hP.sub [4, 5, 6, 7, 8, 9, 10, 11, 12, 13, 0, 1, 2, 3] rfl) (hD.sub [4, 5, 6, 7, 8, 9, 10, 11, 12, 13, 0, 1, 2, 3] (by decide) rfl) hS (Nat.le_of_ble_eq_true rfl) (Nat.le_of_ble_eq_true rfl) dL_step_113
      · have h := h.2 c_1
        refine lv_aload hx hb dL_step_66 (lv_at hl 4 rfl) ?_
        refine lv_iload hx hb dL_step_68 (lv_at hl 9 rfl) ?_
        refine lv_iconst (v := 0) hx hb dL_step_70 (by decide) ?_
        obtain ⟨i_4, h⟩ := h
        refine va_iast hx hb hK hP hD hS 10 0 rfl rfl i_4 dL_step_71 (fun H locs hP hD hS => ?_)
        have hP : va_P D vwCl [(xh, .inr (4, [.ref ch, .ref bh, .ref lg, .int lgd', .ref sh, .ref vh])), (ch, .inr (0, [.ref ca, .int ccc', .int cac', .int cfc', .int clc'])), (ca, .inl (cI, 10, .inl cf')), (bh, .inr (0, [.ref ba, .int bcc', .int bac', .int bfc', .int blc'])), (ba, .inl (cI, 10, .inl bf')), (lg, .inl (cI, 12, .inl lgf')), (sh, .inr (2, [.ref sa, .int cnt', .int call'])), (sa, .inl (cI, 12, .inl swf')), (vh, .inr (3, [.ref va])), (va, .inl (cI, 12, .inl fnf')), (qb, .inl (cI, 12, .inl (upd fb' x9.toNatClampNeg 0))), (qk, .inl (cI, 12, .inl fk')), (qg, .inl (cI, 3, .inl fg')), (ql, .inl (cI, 12, .inl fl'))] H := hP
        have hD : va_D A [(xh, .inr (4, [.ref ch, .ref bh, .ref lg, .int lgd', .ref sh, .ref vh])), (ch, .inr (0, [.ref ca, .int ccc', .int cac', .int cfc', .int clc'])), (ca, .inl (cI, 10, .inl cf')), (bh, .inr (0, [.ref ba, .int bcc', .int bac', .int bfc', .int blc'])), (ba, .inl (cI, 10, .inl bf')), (lg, .inl (cI, 12, .inl lgf')), (sh, .inr (2, [.ref sa, .int cnt', .int call'])), (sa, .inl (cI, 12, .inl swf')), (vh, .inr (3, [.ref va])), (va, .inl (cI, 12, .inl fnf')), (qb, .inl (cI, 12, .inl (upd fb' x9.toNatClampNeg 0))), (qk, .inl (cI, 12, .inl fk')), (qg, .inl (cI, 3, .inl fg')), (ql, .inl (cI, 12, .inl fl'))] := hD
        refine lv_aload hx hb dL_step_72 (lv_at hl 5 rfl) ?_
        refine lv_iload hx hb dL_step_74 (lv_at hl 9 rfl) ?_
        refine lv_iconst (v := 0) hx hb dL_step_76 (by decide) ?_
        obtain ⟨i_5, h⟩ := h
        refine va_iast hx hb hK hP hD hS 11 0 rfl rfl i_5 dL_step_77 (fun H locs hP hD hS => ?_)
        have hP : va_P D vwCl [(xh, .inr (4, [.ref ch, .ref bh, .ref lg, .int lgd', .ref sh, .ref vh])), (ch, .inr (0, [.ref ca, .int ccc', .int cac', .int cfc', .int clc'])), (ca, .inl (cI, 10, .inl cf')), (bh, .inr (0, [.ref ba, .int bcc', .int bac', .int bfc', .int blc'])), (ba, .inl (cI, 10, .inl bf')), (lg, .inl (cI, 12, .inl lgf')), (sh, .inr (2, [.ref sa, .int cnt', .int call'])), (sa, .inl (cI, 12, .inl swf')), (vh, .inr (3, [.ref va])), (va, .inl (cI, 12, .inl fnf')), (qb, .inl (cI, 12, .inl (upd fb' x9.toNatClampNeg 0))), (qk, .inl (cI, 12, .inl (upd fk' x9.toNatClampNeg 0))), (qg, .inl (cI, 3, .inl fg')), (ql, .inl (cI, 12, .inl fl'))] H := hP
        have hD : va_D A [(xh, .inr (4, [.ref ch, .ref bh, .ref lg, .int lgd', .ref sh, .ref vh])), (ch, .inr (0, [.ref ca, .int ccc', .int cac', .int cfc', .int clc'])), (ca, .inl (cI, 10, .inl cf')), (bh, .inr (0, [.ref ba, .int bcc', .int bac', .int bfc', .int blc'])), (ba, .inl (cI, 10, .inl bf')), (lg, .inl (cI, 12, .inl lgf')), (sh, .inr (2, [.ref sa, .int cnt', .int call'])), (sa, .inl (cI, 12, .inl swf')), (vh, .inr (3, [.ref va])), (va, .inl (cI, 12, .inl fnf')), (qb, .inl (cI, 12, .inl (upd fb' x9.toNatClampNeg 0))), (qk, .inl (cI, 12, .inl (upd fk' x9.toNatClampNeg 0))), (qg, .inl (cI, 3, .inl fg')), (ql, .inl (cI, 12, .inl fl'))] := hD
        obtain ⟨y_6, ey_6⟩ : ∃ y : Int32, y = x9 + 1 := ⟨_, rfl⟩
        have h := h y_6 ey_6
        refine lv_iinc (v := y_6) (lv' := [(9, .int y_6), (0, .ref xh), (1, .int p1), (2, .int p2), (3, .int p3), (4, .ref qb), (5, .ref qk), (6, .ref qg), (7, .ref ql), (8, .int x8)]) hx hb dL_step_78 hl (k := 9) rfl (by rw [ey_6]; rfl) (by decide) rfl (fun ls hl => ?_)
        refine lv_goto (tgt := 59) hx hb dL_step_81 (by decide) ?_
        exact ih _ _ _ _ _ _ _ _ _ _ _ _ _ _ _ _ _ _ _ _ _ _ _ _ _ h.1 (Nat.lt_of_lt_of_le h.2 (Nat.le_of_lt_succ hmu)) (hP.sub [0, 1, 2, 3, 4, 5, 6, 7, 8, 9, 10, 11, 12, 13] rfl) (hD.sub [0, 1, 2, 3, 4, 5, 6, 7, 8, 9, 10, 11, 12, 13] (by decide) rfl) hS (lv_sub hl [1, 2, 3, 4, 5, 6, 7, 8, 9, 0] rfl)
  have h := he
  unfold ve_L_step at h
  have hl : lv_has ls 12 [(0, .ref xh), (1, .int p1), (2, .int p2), (3, .int p3), (4, .ref qb), (5, .ref qk), (6, .ref qg), (7, .ref ql)] := hl
  refine lv_iload_n hx hb dL_step_0 rfl (lv_at hl 2 rfl) ?_
  refine lv_aload hx hb dL_step_1 (lv_at hl 6 rfl) ?_
  refine lv_iconst (v := 0) hx hb dL_step_3 (by decide) ?_
  refine ff_ialdK hx hb hK hP 12 0 rfl rfl (vp_in_nI (n := 0) (N := 3) (by decide) (by decide)) (k := 0) rfl dL_step_4 ?_
  refine lv_aload hx hb dL_step_5 (lv_at hl 6 rfl) ?_
  refine lv_iconst (v := 1) hx hb dL_step_7 (by decide) ?_
  refine ff_ialdK hx hb hK hP 12 0 rfl rfl (vp_in_nI (n := 1) (N := 3) (by decide) (by decide)) (k := 1) rfl dL_step_8 ?_
  refine lv_imul hx hb dL_step_9 ?_
  obtain ⟨n_7, h⟩ := h
  refine lv_irem hx hb dL_step_10 n_7 ?_
  refine lv_topi (fun y_8 ey_8 => ?_)
  have h := h y_8 ey_8
  refine lv_istore (lv' := [(8, .int y_8), (0, .ref xh), (1, .int p1), (2, .int p2), (3, .int p3), (4, .ref qb), (5, .ref qk), (6, .ref qg), (7, .ref ql)]) hx hb dL_step_11 hl (by decide) rfl (fun ls hl => ?_)
  refine lv_iload_n hx hb dL_step_13 rfl (lv_at hl 2 rfl) ?_
  refine lv_if_ne (tgt := 114) hx hb dL_step_14 (by decide) (fun c_9 => ?_) (fun c_9 => ?_)
  · have h := h.2 c_9
    refine lv_iload_n hx hb dL_step_114 rfl (lv_at hl 2 rfl) ?_
    refine lv_iconst (v := 3) hx hb dL_step_115 (by decide) ?_
    refine lv_icmp_ge (tgt := 151) hx hb dL_step_116 (by decide) (fun c_10 => ?_) (fun c_10 => ?_)
    · have h := h.1 c_10
      refine lv_iload_n hx hb dL_step_151 rfl (lv_at hl 2 rfl) ?_
      refine lv_iconst (v := 3) hx hb dL_step_152 (by decide) ?_
      refine lv_icmp_ne (tgt := 182) hx hb dL_step_153 (by decide) (fun c_11 => ?_) (fun c_11 => ?_)
      · have h := h.2 c_11
        refine lv_iload_n hx hb dL_step_182 rfl (lv_at hl 2 rfl) ?_
        refine lv_bipush (v := 8) hx hb dL_step_183 (by decide) ?_
        refine lv_icmp_ge (tgt := 279) hx hb dL_step_185 (by decide) (fun c_12 => ?_) (fun c_12 => ?_)
        · have h := h.1 c_12
          refine lv_iload_n hx hb dL_step_279 rfl (lv_at hl 2 rfl) ?_
          refine lv_bipush (v := 10) hx hb dL_step_280 (by decide) ?_
          refine lv_icmp_ge (tgt := 333) hx hb dL_step_282 (by decide) (fun c_13 => ?_) (fun c_13 => ?_)
          · have h := h.1 c_13
            refine lv_aload_n hx hb dL_step_333 rfl (lv_at hl 1 rfl) ?_
            refine lv_iload_n hx hb dL_step_334 rfl (lv_at hl 2 rfl) ?_
            refine lv_iconst (v := 3) hx hb dL_step_335 (by decide) ?_
            refine lv_irem hx hb dL_step_336 (by decide) ?_
            refine lv_aload hx hb dL_step_337 (lv_at hl 5 rfl) ?_
            refine lv_aload hx hb dL_step_339 (lv_at hl 7 rfl) ?_
            refine lv_aload hx hb dL_step_341 (lv_at hl 8 rfl) ?_
            obtain ⟨p_14, h⟩ := h
            have hPc := hP.sub (ws' := [(xh, .inr (4, [.ref ch, .ref bh, .ref lg, .int lgd, .ref sh, .ref vh])), (ch, .inr (0, [.ref ca, .int ccc, .int cac, .int cfc, .int clc])), (ca, .inl (cI, 10, .inl cf)), (bh, .inr (0, [.ref ba, .int bcc, .int bac, .int bfc, .int blc])), (ba, .inl (cI, 10, .inl bf)), (lg, .inl (cI, 12, .inl lgf)), (sh, .inr (2, [.ref sa, .int cnt, .int call])), (sa, .inl (cI, 12, .inl swf)), (vh, .inr (3, [.ref va])), (va, .inl (cI, 12, .inl fnf)), (qb, .inl (cI, 12, .inl fb)), (qg, .inl (cI, 3, .inl fg)), (ql, .inl (cI, 12, .inl fl))]) [0, 1, 2, 3, 4, 5, 6, 7, 8, 9, 10, 12, 13] rfl
            have hDc := hD.sub (ws' := [(xh, .inr (4, [.ref ch, .ref bh, .ref lg, .int lgd, .ref sh, .ref vh])), (ch, .inr (0, [.ref ca, .int ccc, .int cac, .int cfc, .int clc])), (ca, .inl (cI, 10, .inl cf)), (bh, .inr (0, [.ref ba, .int bcc, .int bac, .int bfc, .int blc])), (ba, .inl (cI, 10, .inl bf)), (lg, .inl (cI, 12, .inl lgf)), (sh, .inr (2, [.ref sa, .int cnt, .int call])), (sa, .inl (cI, 12, .inl swf)), (vh, .inr (3, [.ref va])), (va, .inl (cI, 12, .inl fnf)), (qb, .inl (cI, 12, .inl fb)), (qg, .inl (cI, 3, .inl fg)), (ql, .inl (cI, 12, .inl fl))]) [0, 1, 2, 3, 4, 5, 6, 7, 8, 9, 10, 12, 13] (by decide) rfl
            refine ff_callI (va_runS (As := [.ref xh, .int (p1 - p1 / 3 * 3), .ref qb, .ref qg, .ref ql]) (rest := []) ⟨hx, hb, hml, hown, hts⟩ (c_L_runs l D cI xh ch ca bh ba lg sh sa vh va qb qg ql H.size lgd ccc cac cfc clc cf bcc bac bfc blc bf lgf cnt call swf fnf fb fg fl (p1 - p1 / 3 * 3) p_14) (va_cwS 5 hts gL_step_L_runs rfl rfl rfl (by decide +kernel) ⟨Nat.le_of_ble_eq_true rfl, Nat.le_of_ble_eq_true rfl⟩) (ff_preS hPc hK hDc hN) rfl rfl hl.1 rfl (lv_room (Nat.le_of_ble_eq_true rfl)) dL_step_343 ⟨Nat.le_of_ble_eq_true rfl, Nat.le_of_ble_eq_true rfl⟩) hP hD hS hA [0, 1, 2, 3, 4, 5, 6, 7, 8, 9, 10, 12, 13] [11] (wr := [(qk, .inl (cI, 12, .inl fk))]) rfl rfl (by decide) (by decide) (fun r u H locs hw hP hD hS => ?_)
            obtain ⟨bf_15, lgf_15, lgd_15, cnt_15, call_15, swf_15, fb_15, fg_15, fl_15⟩ := u
            have hw : r = 1 ∧ (∀ z, PI lgd ccc cac cfc clc cf bcc bac bfc blc bf lgf fb z fg fl → PI lgd_15 ccc cac cfc clc cf bcc bac bfc blc bf_15 lgf_15 fb_15 z fg_15 fl_15) := hw
            obtain ⟨e0_w, hrel⟩ := hw
            replace e0_w := e0_w.symm
            subst e0_w
            have h := h bf_15 lgf_15 lgd_15 cnt_15 call_15 swf_15 fb_15 fg_15 fl_15
            have h := h hrel
            have hP : va_P D vwCl [(qk, .inl (cI, 12, .inl fk)), (xh, .inr (4, [.ref ch, .ref bh, .ref lg, .int lgd_15, .ref sh, .ref vh])), (ch, .inr (0, [.ref ca, .int ccc, .int cac, .int cfc, .int clc])), (ca, .inl (cI, 10, .inl cf)), (bh, .inr (0, [.ref ba, .int bcc, .int bac, .int bfc, .int blc])), (ba, .inl (cI, 10, .inl bf_15)), (lg, .inl (cI, 12, .inl lgf_15)), (sh, .inr (2, [.ref sa, .int cnt_15, .int call_15])), (sa, .inl (cI, 12, .inl swf_15)), (vh, .inr (3, [.ref va])), (va, .inl (cI, 12, .inl fnf)), (qb, .inl (cI, 12, .inl fb_15)), (qg, .inl (cI, 3, .inl fg_15)), (ql, .inl (cI, 12, .inl fl_15))] H := hP
            have hD : va_D A [(qk, .inl (cI, 12, .inl fk)), (xh, .inr (4, [.ref ch, .ref bh, .ref lg, .int lgd_15, .ref sh, .ref vh])), (ch, .inr (0, [.ref ca, .int ccc, .int cac, .int cfc, .int clc])), (ca, .inl (cI, 10, .inl cf)), (bh, .inr (0, [.ref ba, .int bcc, .int bac, .int bfc, .int blc])), (ba, .inl (cI, 10, .inl bf_15)), (lg, .inl (cI, 12, .inl lgf_15)), (sh, .inr (2, [.ref sa, .int cnt_15, .int call_15])), (sa, .inl (cI, 12, .inl swf_15)), (vh, .inr (3, [.ref va])), (va, .inl (cI, 12, .inl fnf)), (qb, .inl (cI, 12, .inl fb_15)), (qg, .inl (cI, 3, .inl fg_15)), (ql, .inl (cI, 12, .inl fl_15))] := hD
            exact hret 1 (ccc, cac, cfc, clc, cf, bcc, bac, bfc, blc, bf_15, lgf_15, lgd_15, cnt_15, call_15, swf_15, fnf, fb_15, fk, fg_15, fl_15) _ _ _ _ _ _ (by decide) h (hP.sub [1, 2, 3, 4, 5, 6, 7, 8, 9, 10, 11, 0, 12, 13] rfl) (hD.sub [1, 2, 3, 4, 5, 6, 7, 8, 9, 10, 11, 0, 12, 13] (by decide) rfl) hS (Nat.le_of_ble_eq_true rfl) (Nat.le_of_ble_eq_true rfl) dL_step_346
          · have h := h.2 c_13
            refine lv_aload hx hb dL_step_285 (lv_at hl 7 rfl) ?_
            refine lv_iconst (v := 2) hx hb dL_step_287 (by decide) ?_
            refine ff_ialdK hx hb hK hP 12 0 rfl rfl (vp_in_nI (n := 2) (N := 3) (by decide) (by decide)) (k := 2) rfl dL_step_288 ?_
            refine lv_if_ne (tgt := 294) hx hb dL_step_289 (by decide) (fun c_16 => ?_) (fun c_16 => ?_)
            · have h := h.2 c_16
              refine lv_aload hx hb dL_step_294 (lv_at hl 7 rfl) ?_
              refine lv_iconst (v := 2) hx hb dL_step_296 (by decide) ?_
              refine lv_dup2_11 hx hb dL_step_297 rfl rfl ?_
              refine ff_ialdK hx hb hK hP 12 0 rfl rfl (vp_in_nI (n := 2) (N := 3) (by decide) (by decide)) (k := 2) rfl dL_step_298 ?_
              refine lv_iconst (v := 1) hx hb dL_step_299 (by decide) ?_
              refine lv_isub hx hb dL_step_300 ?_
              refine ff_iastK hx hb hK hP hD hS 12 0 rfl rfl (vp_in_nI (n := 2) (N := 3) (by decide) (by decide)) (k := 2) rfl dL_step_301 (fun H locs hP hD hS => ?_)
              have hP : va_P D vwCl [(xh, .inr (4, [.ref ch, .ref bh, .ref lg, .int lgd, .ref sh, .ref vh])), (ch, .inr (0, [.ref ca, .int ccc, .int cac, .int cfc, .int clc])), (ca, .inl (cI, 10, .inl cf)), (bh, .inr (0, [.ref ba, .int bcc, .int bac, .int bfc, .int blc])), (ba, .inl (cI, 10, .inl bf)), (lg, .inl (cI, 12, .inl lgf)), (sh, .inr (2, [.ref sa, .int cnt, .int call])), (sa, .inl (cI, 12, .inl swf)), (vh, .inr (3, [.ref va])), (va, .inl (cI, 12, .inl fnf)), (qb, .inl (cI, 12, .inl fb)), (qk, .inl (cI, 12, .inl fk)), (qg, .inl (cI, 3, .inl (upd fg 2 ((fg 2) - 1)))), (ql, .inl (cI, 12, .inl fl))] H := hP
              have hD : va_D A [(xh, .inr (4, [.ref ch, .ref bh, .ref lg, .int lgd, .ref sh, .ref vh])), (ch, .inr (0, [.ref ca, .int ccc, .int cac, .int cfc, .int clc])), (ca, .inl (cI, 10, .inl cf)), (bh, .inr (0, [.ref ba, .int bcc, .int bac, .int bfc, .int blc])), (ba, .inl (cI, 10, .inl bf)), (lg, .inl (cI, 12, .inl lgf)), (sh, .inr (2, [.ref sa, .int cnt, .int call])), (sa, .inl (cI, 12, .inl swf)), (vh, .inr (3, [.ref va])), (va, .inl (cI, 12, .inl fnf)), (qb, .inl (cI, 12, .inl fb)), (qk, .inl (cI, 12, .inl fk)), (qg, .inl (cI, 3, .inl (upd fg 2 ((fg 2) - 1)))), (ql, .inl (cI, 12, .inl fl))] := hD
              refine lv_aload hx hb dL_step_302 (lv_at hl 5 rfl) ?_
              refine lv_aload hx hb dL_step_304 (lv_at hl 8 rfl) ?_
              refine lv_aload hx hb dL_step_306 (lv_at hl 7 rfl) ?_
              refine lv_iconst (v := 2) hx hb dL_step_308 (by decide) ?_
              refine ff_ialdK hx hb hK hP 12 0 rfl rfl (vp_in_nI (n := 2) (N := 3) (by decide) (by decide)) (k := 2) rfl dL_step_309 ?_
              obtain ⟨i_17, h⟩ := h
              refine va_iald hx hb hK hP 13 0 rfl rfl i_17 dL_step_310 ?_
              refine lv_iconst (v := 0) hx hb dL_step_311 (by decide) ?_
              obtain ⟨i_18, h⟩ := h
              refine va_iast hx hb hK hP hD hS 10 0 rfl rfl i_18 dL_step_312 (fun H locs hP hD hS => ?_)
              have hP : va_P D vwCl [(xh, .inr (4, [.ref ch, .ref bh, .ref lg, .int lgd, .ref sh, .ref vh])), (ch, .inr (0, [.ref ca, .int ccc, .int cac, .int cfc, .int clc])), (ca, .inl (cI, 10, .inl cf)), (bh, .inr (0, [.ref ba, .int bcc, .int bac, .int bfc, .int blc])), (ba, .inl (cI, 10, .inl bf)), (lg, .inl (cI, 12, .inl lgf)), (sh, .inr (2, [.ref sa, .int cnt, .int call])), (sa, .inl (cI, 12, .inl swf)), (vh, .inr (3, [.ref va])), (va, .inl (cI, 12, .inl fnf)), (qb, .inl (cI, 12, .inl (upd fb (fl ((upd fg 2 ((fg 2) - 1)) 2 : Int32).toNatClampNeg : Int32).toNatClampNeg 0))), (qk, .inl (cI, 12, .inl fk)), (qg, .inl (cI, 3, .inl (upd fg 2 ((fg 2) - 1)))), (ql, .inl (cI, 12, .inl fl))] H := hP
              have hD : va_D A [(xh, .inr (4, [.ref ch, .ref bh, .ref lg, .int lgd, .ref sh, .ref vh])), (ch, .inr (0, [.ref ca, .int ccc, .int cac, .int cfc, .int clc])), (ca, .inl (cI, 10, .inl cf)), (bh, .inr (0, [.ref ba, .int bcc, .int bac, .int bfc, .int blc])), (ba, .inl (cI, 10, .inl bf)), (lg, .inl (cI, 12, .inl lgf)), (sh, .inr (2, [.ref sa, .int cnt, .int call])), (sa, .inl (cI, 12, .inl swf)), (vh, .inr (3, [.ref va])), (va, .inl (cI, 12, .inl fnf)), (qb, .inl (cI, 12, .inl (upd fb (fl ((upd fg 2 ((fg 2) - 1)) 2 : Int32).toNatClampNeg : Int32).toNatClampNeg 0))), (qk, .inl (cI, 12, .inl fk)), (qg, .inl (cI, 3, .inl (upd fg 2 ((fg 2) - 1)))), (ql, .inl (cI, 12, .inl fl))] := hD
              refine lv_aload_n hx hb dL_step_313 rfl (lv_at hl 1 rfl) ?_
              obtain ⟨p_19, h⟩ := h
              have hPc := hP.sub (ws' := [(xh, .inr (4, [.ref ch, .ref bh, .ref lg, .int lgd, .ref sh, .ref vh])), (ch, .inr (0, [.ref ca, .int ccc, .int cac, .int cfc, .int clc])), (ca, .inl (cI, 10, .inl cf)), (bh, .inr (0, [.ref ba, .int bcc, .int bac, .int bfc, .int blc])), (ba, .inl (cI, 10, .inl bf)), (lg, .inl (cI, 12, .inl lgf)), (sh, .inr (2, [.ref sa, .int cnt, .int call])), (sa, .inl (cI, 12, .inl swf)), (vh, .inr (3, [.ref va])), (va, .inl (cI, 12, .inl fnf))]) [0, 1, 2, 3, 4, 5, 6, 7, 8, 9] rfl
              have hDc := hD.sub (ws' := [(xh, .inr (4, [.ref ch, .ref bh, .ref lg, .int lgd, .ref sh, .ref vh])), (ch, .inr (0, [.ref ca, .int ccc, .int cac, .int cfc, .int clc])), (ca, .inl (cI, 10, .inl cf)), (bh, .inr (0, [.ref ba, .int bcc, .int bac, .int bfc, .int blc])), (ba, .inl (cI, 10, .inl bf)), (lg, .inl (cI, 12, .inl lgf)), (sh, .inr (2, [.ref sa, .int cnt, .int call])), (sa, .inl (cI, 12, .inl swf)), (vh, .inr (3, [.ref va])), (va, .inl (cI, 12, .inl fnf))]) [0, 1, 2, 3, 4, 5, 6, 7, 8, 9] (by decide) rfl
              refine ff_callI (va_runV (As := []) (rest := []) ⟨hx, hb, hml, hown, hts⟩ (c_X4_undoN l D cI xh ch ca bh ba lg sh sa vh va H.size lgd ccc cac cfc clc cf bcc bac bfc blc bf lgf cnt call swf fnf p_19) (cwV 0 hts gL_step_X4_undo rfl rfl rfl (by decide +kernel) ⟨Nat.le_of_ble_eq_true rfl, Nat.le_of_ble_eq_true rfl⟩) (ff_preV (q := (RX4, TX4, 6)) (ci := 4) (q0 := 0) hPc hK hDc hN rfl rfl) rfl rfl hl.1 rfl (lv_room (Nat.le_of_ble_eq_true rfl)) dL_step_314 ⟨Nat.le_of_ble_eq_true rfl, Nat.le_of_ble_eq_true rfl⟩) hP hD hS hA [0, 1, 2, 3, 4, 5, 6, 7, 8, 9] [10, 11, 12, 13] (wr := [(qb, .inl (cI, 12, .inl (upd fb (fl ((upd fg 2 ((fg 2) - 1)) 2 : Int32).toNatClampNeg : Int32).toNatClampNeg 0))), (qk, .inl (cI, 12, .inl fk)), (qg, .inl (cI, 3, .inl (upd fg 2 ((fg 2) - 1)))), (ql, .inl (cI, 12, .inl fl))]) rfl rfl (by decide) (by decide) (fun r u H locs hw hP hD hS => ?_)
              obtain ⟨e0_w, e1_w⟩ := hw
              replace e0_w := e0_w.symm
              subst e0_w
              replace e1_w := e1_w.symm
              subst e1_w
              have hP : va_P D vwCl [(qb, .inl (cI, 12, .inl (upd fb (fl ((upd fg 2 ((fg 2) - 1)) 2 : Int32).toNatClampNeg : Int32).toNatClampNeg 0))), (qk, .inl (cI, 12, .inl fk)), (qg, .inl (cI, 3, .inl (upd fg 2 ((fg 2) - 1)))), (ql, .inl (cI, 12, .inl fl)), (xh, .inr (4, [.ref ch, .ref bh, .ref lg, .int (lgd - 1), .ref sh, .ref vh])), (ch, .inr (0, [.ref ca, .int ccc, .int cac, .int cfc, .int clc])), (ca, .inl (cI, 10, .inl cf)), (bh, .inr (0, [.ref ba, .int bcc, .int bac, .int bfc, .int blc])), (ba, .inl (cI, 10, .inl (zwr bf (lgf (lgd - 1).toNatClampNeg) 0))), (lg, .inl (cI, 12, .inl lgf)), (sh, .inr (2, [.ref sa, .int cnt, .int call])), (sa, .inl (cI, 12, .inl swf)), (vh, .inr (3, [.ref va])), (va, .inl (cI, 12, .inl fnf))] H := hP
              have hD : va_D A [(qb, .inl (cI, 12, .inl (upd fb (fl ((upd fg 2 ((fg 2) - 1)) 2 : Int32).toNatClampNeg : Int32).toNatClampNeg 0))), (qk, .inl (cI, 12, .inl fk)), (qg, .inl (cI, 3, .inl (upd fg 2 ((fg 2) - 1)))), (ql, .inl (cI, 12, .inl fl)), (xh, .inr (4, [.ref ch, .ref bh, .ref lg, .int (lgd - 1), .ref sh, .ref vh])), (ch, .inr (0, [.ref ca, .int ccc, .int cac, .int cfc, .int clc])), (ca, .inl (cI, 10, .inl cf)), (bh, .inr (0, [.ref ba, .int bcc, .int bac, .int bfc, .int blc])), (ba, .inl (cI, 10, .inl (zwr bf (lgf (lgd - 1).toNatClampNeg) 0))), (lg, .inl (cI, 12, .inl lgf)), (sh, .inr (2, [.ref sa, .int cnt, .int call])), (sa, .inl (cI, 12, .inl swf)), (vh, .inr (3, [.ref va])), (va, .inl (cI, 12, .inl fnf))] := hD
              refine lv_aload hx hb dL_step_317 (lv_at hl 8 rfl) ?_
              refine lv_aload hx hb dL_step_319 (lv_at hl 7 rfl) ?_
              refine lv_iconst (v := 2) hx hb dL_step_321 (by decide) ?_
              refine ff_ialdK hx hb hK hP 2 0 rfl rfl (vp_in_nI (n := 2) (N := 3) (by decide) (by decide)) (k := 2) rfl dL_step_322 ?_
              obtain ⟨i_20, h⟩ := h
              refine va_iald hx hb hK hP 3 0 rfl rfl i_20 dL_step_323 ?_
              refine lv_icmp_ne (tgt := 331) hx hb dL_step_324 (by decide) (fun c_21 => ?_) (fun c_21 => ?_)
              · have h := h.2 c_21
                refine lv_iconst (v := 0) hx hb dL_step_331 (by decide) ?_
                exact hret 0 (ccc, cac, cfc, clc, cf, bcc, bac, bfc, blc, zwr bf (lgf (lgd - 1).toNatClampNeg) 0, lgf, lgd - 1, cnt, call, swf, fnf, upd fb (fl ((upd fg 2 ((fg 2) - 1)) 2 : Int32).toNatClampNeg : Int32).toNatClampNeg 0, fk, upd fg 2 ((fg 2) - 1), fl) _ _ _ _ _ _ (by decide) h (hP.sub [4, 5, 6, 7, 8, 9, 10, 11, 12, 13, 0, 1, 2, 3] rfl) (hD.sub [4, 5, 6, 7, 8, 9, 10, 11, 12, 13, 0, 1, 2, 3] (by decide) rfl) hS (Nat.le_of_ble_eq_true rfl) (Nat.le_of_ble_eq_true rfl) dL_step_332
              · have h := h.1 c_21
                refine lv_iconst (v := 1) hx hb dL_step_327 (by decide) ?_
                refine lv_goto (tgt := 332) hx hb dL_step_328 (by decide) ?_
                exact hret 1 (ccc, cac, cfc, clc, cf, bcc, bac, bfc, blc, zwr bf (lgf (lgd - 1).toNatClampNeg) 0, lgf, lgd - 1, cnt, call, swf, fnf, upd fb (fl ((upd fg 2 ((fg 2) - 1)) 2 : Int32).toNatClampNeg : Int32).toNatClampNeg 0, fk, upd fg 2 ((fg 2) - 1), fl) _ _ _ _ _ _ (by decide) h (hP.sub [4, 5, 6, 7, 8, 9, 10, 11, 12, 13, 0, 1, 2, 3] rfl) (hD.sub [4, 5, 6, 7, 8, 9, 10, 11, 12, 13, 0, 1, 2, 3] (by decide) rfl) hS (Nat.le_of_ble_eq_true rfl) (Nat.le_of_ble_eq_true rfl) dL_step_332
            · have h := h.1 c_16
              refine lv_iconst (v := 1) hx hb dL_step_292 (by decide) ?_
              exact hret 1 (ccc, cac, cfc, clc, cf, bcc, bac, bfc, blc, bf, lgf, lgd, cnt, call, swf, fnf, fb, fk, fg, fl) _ _ _ _ _ _ (by decide) h (hP.sub [0, 1, 2, 3, 4, 5, 6, 7, 8, 9, 10, 11, 12, 13] rfl) (hD.sub [0, 1, 2, 3, 4, 5, 6, 7, 8, 9, 10, 11, 12, 13] (by decide) rfl) hS (Nat.le_of_ble_eq_true rfl) (Nat.le_of_ble_eq_true rfl) dL_step_293
        · have h := h.2 c_12
          refine lv_iload_n hx hb dL_step_188 rfl (lv_at hl 4 rfl) ?_
          refine lv_iconst (v := 3) hx hb dL_step_189 (by decide) ?_
          refine lv_irem hx hb dL_step_190 (by decide) ?_
          refine lv_if_ne (tgt := 205) hx hb dL_step_191 (by decide) (fun c_22 => ?_) (fun c_22 => ?_)
          · have h := h.2 c_22
            refine lv_iconst (v := 1) hx hb dL_step_205 (by decide) ?_
            refine lv_iload_n hx hb dL_step_206 rfl (lv_at hl 4 rfl) ?_
            refine lv_iconst (v := 3) hx hb dL_step_207 (by decide) ?_
            refine lv_idiv hx hb dL_step_208 (by decide) ?_
            refine lv_iconst (v := 4) hx hb dL_step_209 (by decide) ?_
            refine lv_irem hx hb dL_step_210 (by decide) ?_
            refine lv_iadd hx hb dL_step_211 ?_
            refine lv_topi (fun y_23 ey_23 => ?_)
            have h := h y_23 ey_23
            refine lv_istore (lv' := [(9, .int y_23), (8, .int y_8), (0, .ref xh), (1, .int p1), (2, .int p2), (3, .int p3), (4, .ref qb), (5, .ref qk), (6, .ref qg), (7, .ref ql)]) hx hb dL_step_212 hl (by decide) rfl (fun ls hl => ?_)
            refine lv_aload_n hx hb dL_step_214 rfl (lv_at hl 2 rfl) ?_
            refine lv_iload hx hb dL_step_215 (lv_at hl 1 rfl) ?_
            refine lv_iload hx hb dL_step_217 (lv_at hl 0 rfl) ?_
            obtain ⟨p_24, h⟩ := h
            have hPc := hP.sub (ws' := [(xh, .inr (4, [.ref ch, .ref bh, .ref lg, .int lgd, .ref sh, .ref vh])), (ch, .inr (0, [.ref ca, .int ccc, .int cac, .int cfc, .int clc])), (ca, .inl (cI, 10, .inl cf)), (bh, .inr (0, [.ref ba, .int bcc, .int bac, .int bfc, .int blc])), (ba, .inl (cI, 10, .inl bf)), (lg, .inl (cI, 12, .inl lgf)), (sh, .inr (2, [.ref sa, .int cnt, .int call])), (sa, .inl (cI, 12, .inl swf)), (vh, .inr (3, [.ref va])), (va, .inl (cI, 12, .inl fnf))]) [0, 1, 2, 3, 4, 5, 6, 7, 8, 9] rfl
            have hDc := hD.sub (ws' := [(xh, .inr (4, [.ref ch, .ref bh, .ref lg, .int lgd, .ref sh, .ref vh])), (ch, .inr (0, [.ref ca, .int ccc, .int cac, .int cfc, .int clc])), (ca, .inl (cI, 10, .inl cf)), (bh, .inr (0, [.ref ba, .int bcc, .int bac, .int bfc, .int blc])), (ba, .inl (cI, 10, .inl bf)), (lg, .inl (cI, 12, .inl lgf)), (sh, .inr (2, [.ref sa, .int cnt, .int call])), (sa, .inl (cI, 12, .inl swf)), (vh, .inr (3, [.ref va])), (va, .inl (cI, 12, .inl fnf))]) [0, 1, 2, 3, 4, 5, 6, 7, 8, 9] (by decide) rfl
            refine ff_callI (va_runV (As := [.int y_8, .int y_23]) (rest := []) ⟨hx, hb, hml, hown, hts⟩ (c_X4_canBeN l D cI xh ch ca bh ba lg sh sa vh va H.size lgd ccc cac cfc clc cf bcc bac bfc blc bf lgf cnt call swf fnf y_8 y_23 p_24) (cwV 2 hts gL_step_X4_canBe rfl rfl rfl (by decide +kernel) ⟨Nat.le_of_ble_eq_true rfl, Nat.le_of_ble_eq_true rfl⟩) (ff_preV (q := (RX4, TX4, 6)) (ci := 4) (q0 := 0) hPc hK hDc hN rfl rfl) rfl rfl hl.1 rfl (lv_room (Nat.le_of_ble_eq_true rfl)) dL_step_219 ⟨Nat.le_of_ble_eq_true rfl, Nat.le_of_ble_eq_true rfl⟩) hP hD hS hA [0, 1, 2, 3, 4, 5, 6, 7, 8, 9] [10, 11, 12, 13] (wr := [(qb, .inl (cI, 12, .inl fb)), (qk, .inl (cI, 12, .inl fk)), (qg, .inl (cI, 3, .inl fg)), (ql, .inl (cI, 12, .inl fl))]) rfl rfl (by decide) (by decide) (fun r u H locs hw hP hD hS => ?_)
            obtain ⟨e0_w, e1_w⟩ := hw
            replace e0_w := e0_w.symm
            subst e0_w
            replace e1_w := e1_w.symm
            subst e1_w
            have hP : va_P D vwCl [(qb, .inl (cI, 12, .inl fb)), (qk, .inl (cI, 12, .inl fk)), (qg, .inl (cI, 3, .inl fg)), (ql, .inl (cI, 12, .inl fl)), (xh, .inr (4, [.ref ch, .ref bh, .ref lg, .int lgd, .ref sh, .ref vh])), (ch, .inr (0, [.ref ca, .int ccc, .int cac, .int cfc, .int clc])), (ca, .inl (cI, 10, .inl cf)), (bh, .inr (0, [.ref ba, .int bcc, .int bac, .int bfc, .int blc])), (ba, .inl (cI, 10, .inl bf)), (lg, .inl (cI, 12, .inl lgf)), (sh, .inr (2, [.ref sa, .int cnt, .int call])), (sa, .inl (cI, 12, .inl swf)), (vh, .inr (3, [.ref va])), (va, .inl (cI, 12, .inl fnf))] H := hP
            have hD : va_D A [(qb, .inl (cI, 12, .inl fb)), (qk, .inl (cI, 12, .inl fk)), (qg, .inl (cI, 3, .inl fg)), (ql, .inl (cI, 12, .inl fl)), (xh, .inr (4, [.ref ch, .ref bh, .ref lg, .int lgd, .ref sh, .ref vh])), (ch, .inr (0, [.ref ca, .int ccc, .int cac, .int cfc, .int clc])), (ca, .inl (cI, 10, .inl cf)), (bh, .inr (0, [.ref ba, .int bcc, .int bac, .int bfc, .int blc])), (ba, .inl (cI, 10, .inl bf)), (lg, .inl (cI, 12, .inl lgf)), (sh, .inr (2, [.ref sa, .int cnt, .int call])), (sa, .inl (cI, 12, .inl swf)), (vh, .inr (3, [.ref va])), (va, .inl (cI, 12, .inl fnf))] := hD
            refine lv_topi (fun y_25 ey_25 => ?_)
            have h := h y_25 ey_25
            refine lv_istore (lv' := [(10, .int y_25), (9, .int y_23), (8, .int y_8), (0, .ref xh), (1, .int p1), (2, .int p2), (3, .int p3), (4, .ref qb), (5, .ref qk), (6, .ref qg), (7, .ref ql)]) hx hb dL_step_222 hl (by decide) rfl (fun ls hl => ?_)
            refine lv_aload_n hx hb dL_step_224 rfl (lv_at hl 3 rfl) ?_
            refine lv_iload hx hb dL_step_225 (lv_at hl 2 rfl) ?_
            refine lv_iload hx hb dL_step_227 (lv_at hl 1 rfl) ?_
            obtain ⟨p_26, h⟩ := h
            have hPc := hP.sub (ws' := [(xh, .inr (4, [.ref ch, .ref bh, .ref lg, .int lgd, .ref sh, .ref vh])), (ch, .inr (0, [.ref ca, .int ccc, .int cac, .int cfc, .int clc])), (ca, .inl (cI, 10, .inl cf)), (bh, .inr (0, [.ref ba, .int bcc, .int bac, .int bfc, .int blc])), (ba, .inl (cI, 10, .inl bf)), (lg, .inl (cI, 12, .inl lgf)), (sh, .inr (2, [.ref sa, .int cnt, .int call])), (sa, .inl (cI, 12, .inl swf)), (vh, .inr (3, [.ref va])), (va, .inl (cI, 12, .inl fnf))]) [4, 5, 6, 7, 8, 9, 10, 11, 12, 13] rfl
            have hDc := hD.sub (ws' := [(xh, .inr (4, [.ref ch, .ref bh, .ref lg, .int lgd, .ref sh, .ref vh])), (ch, .inr (0, [.ref ca, .int ccc, .int cac, .int cfc, .int clc])), (ca, .inl (cI, 10, .inl cf)), (bh, .inr (0, [.ref ba, .int bcc, .int bac, .int bfc, .int blc])), (ba, .inl (cI, 10, .inl bf)), (lg, .inl (cI, 12, .inl lgf)), (sh, .inr (2, [.ref sa, .int cnt, .int call])), (sa, .inl (cI, 12, .inl swf)), (vh, .inr (3, [.ref va])), (va, .inl (cI, 12, .inl fnf))]) [4, 5, 6, 7, 8, 9, 10, 11, 12, 13] (by decide) rfl
            refine ff_callI (vx_runSW (As := [.ref xh, .int y_8, .int y_23]) (rest := []) ⟨hx, hb, hml, hown, hts⟩ (c_L_fills l hst D cI xh ch ca bh ba lg sh sa vh va H.size lgd ccc cac cfc clc cf bcc bac bfc blc bf lgf cnt call swf fnf y_8 y_23 p_26) (vx_cwSW 3 hts gL_step_L_fills rfl rfl rfl (by decide +kernel) ⟨Nat.le_of_ble_eq_true rfl, Nat.le_of_ble_eq_true rfl⟩) (ffx_preS hPc hK hDc hN hZ hS (va_free hD hS hA [4, 5, 6, 7, 8, 9, 10, 11, 12, 13] rfl)) rfl rfl hl.1 rfl (lv_room (Nat.le_of_ble_eq_true rfl)) dL_step_229 ⟨Nat.le_of_ble_eq_true rfl, Nat.le_of_ble_eq_true rfl⟩) hP hD hS hA [4, 5, 6, 7, 8, 9, 10, 11, 12, 13] [0, 1, 2, 3] (wr := [(qb, .inl (cI, 12, .inl fb)), (qk, .inl (cI, 12, .inl fk)), (qg, .inl (cI, 3, .inl fg)), (ql, .inl (cI, 12, .inl fl))]) rfl rfl (by decide) (by decide) (fun r u H locs hw hP hD hS => ?_)
            obtain ⟨r_27, er_27⟩ : ∃ z, z = r := ⟨_, rfl⟩
            subst er_27
            obtain ⟨bf_27, lgf_27, lgd_27⟩ := u
            have hw : ((zxf bcc bac bfc blc bf y_8 y_23 = 0 → r_27 = bc (zfo bcc bac bfc blc (if zlg lgd then zwr bf y_8 y_23 else bf) y_8) ∧ bf_27 = (if zlg lgd then zwr bf y_8 y_23 else bf) ∧ lgf_27 = (if zlg lgd then upd lgf lgd.toNatClampNeg y_8 else lgf) ∧ lgd_27 = (if zlg lgd then lgd + 1 else lgd)) ∧ (¬ zxf bcc bac bfc blc bf y_8 y_23 = 0 → r_27 = -8 ∧ bf_27 = bf ∧ lgf_27 = lgf ∧ lgd_27 = lgd)) := hw
            have hrel := hw
            have h := h r_27 bf_27 lgf_27 lgd_27
            have h := h hrel
            have hP : va_P D vwCl [(qb, .inl (cI, 12, .inl fb)), (qk, .inl (cI, 12, .inl fk)), (qg, .inl (cI, 3, .inl fg)), (ql, .inl (cI, 12, .inl fl)), (xh, .inr (4, [.ref ch, .ref bh, .ref lg, .int lgd_27, .ref sh, .ref vh])), (ch, .inr (0, [.ref ca, .int ccc, .int cac, .int cfc, .int clc])), (ca, .inl (cI, 10, .inl cf)), (bh, .inr (0, [.ref ba, .int bcc, .int bac, .int bfc, .int blc])), (ba, .inl (cI, 10, .inl bf_27)), (lg, .inl (cI, 12, .inl lgf_27)), (sh, .inr (2, [.ref sa, .int cnt, .int call])), (sa, .inl (cI, 12, .inl swf)), (vh, .inr (3, [.ref va])), (va, .inl (cI, 12, .inl fnf))] H := hP
            have hD : va_D A [(qb, .inl (cI, 12, .inl fb)), (qk, .inl (cI, 12, .inl fk)), (qg, .inl (cI, 3, .inl fg)), (ql, .inl (cI, 12, .inl fl)), (xh, .inr (4, [.ref ch, .ref bh, .ref lg, .int lgd_27, .ref sh, .ref vh])), (ch, .inr (0, [.ref ca, .int ccc, .int cac, .int cfc, .int clc])), (ca, .inl (cI, 10, .inl cf)), (bh, .inr (0, [.ref ba, .int bcc, .int bac, .int bfc, .int blc])), (ba, .inl (cI, 10, .inl bf_27)), (lg, .inl (cI, 12, .inl lgf_27)), (sh, .inr (2, [.ref sa, .int cnt, .int call])), (sa, .inl (cI, 12, .inl swf)), (vh, .inr (3, [.ref va])), (va, .inl (cI, 12, .inl fnf))] := hD
            refine lv_istore (lv' := [(11, .int r_27), (10, .int y_25), (9, .int y_23), (8, .int y_8), (0, .ref xh), (1, .int p1), (2, .int p2), (3, .int p3), (4, .ref qb), (5, .ref qk), (6, .ref qg), (7, .ref ql)]) hx hb dL_step_232 hl (by decide) rfl (fun ls hl => ?_)
            refine lv_iload hx hb dL_step_234 (lv_at hl 1 rfl) ?_
            refine lv_if_eq (tgt := 252) hx hb dL_step_236 (by decide) (fun c_28 => ?_) (fun c_28 => ?_)
            · have h := h.1 c_28
              refine lv_iload hx hb dL_step_252 (lv_at hl 0 rfl) ?_
              refine lv_iload hx hb dL_step_254 (lv_at hl 1 rfl) ?_
              refine lv_if_eq (tgt := 268) hx hb dL_step_256 (by decide) (fun c_29 => ?_) (fun c_29 => ?_)
              · have h := h.1 c_29
                refine lv_bipush (v := (-8)) hx hb dL_step_268 (by decide) ?_
                refine lv_icmp_ne (tgt := 277) hx hb dL_step_270 (by decide) (fun c_30 => ?_) (fun c_30 => ?_)
                · have h := h.2 c_30
                  refine lv_iconst (v := 0) hx hb dL_step_277 (by decide) ?_
                  exact hret 0 (ccc, cac, cfc, clc, cf, bcc, bac, bfc, blc, bf_27, lgf_27, lgd_27, cnt, call, swf, fnf, fb, fk, fg, fl) _ _ _ _ _ _ (by decide) h (hP.sub [4, 5, 6, 7, 8, 9, 10, 11, 12, 13, 0, 1, 2, 3] rfl) (hD.sub [4, 5, 6, 7, 8, 9, 10, 11, 12, 13, 0, 1, 2, 3] (by decide) rfl) hS (Nat.le_of_ble_eq_true rfl) (Nat.le_of_ble_eq_true rfl) dL_step_278
                · have h := h.1 c_30
                  refine lv_iconst (v := 1) hx hb dL_step_273 (by decide) ?_
                  refine lv_goto (tgt := 278) hx hb dL_step_274 (by decide) ?_
                  exact hret 1 (ccc, cac, cfc, clc, cf, bcc, bac, bfc, blc, bf_27, lgf_27, lgd_27, cnt, call, swf, fnf, fb, fk, fg, fl) _ _ _ _ _ _ (by decide) h (hP.sub [4, 5, 6, 7, 8, 9, 10, 11, 12, 13, 0, 1, 2, 3] rfl) (hD.sub [4, 5, 6, 7, 8, 9, 10, 11, 12, 13, 0, 1, 2, 3] (by decide) rfl) hS (Nat.le_of_ble_eq_true rfl) (Nat.le_of_ble_eq_true rfl) dL_step_278
              · have h := h.2 c_29
                refine lv_aload_n hx hb dL_step_259 rfl (lv_at hl 4 rfl) ?_
                refine lv_iload hx hb dL_step_260 (lv_at hl 3 rfl) ?_
                obtain ⟨p_31, h⟩ := h
                have hPc := hP.sub (ws' := [(xh, .inr (4, [.ref ch, .ref bh, .ref lg, .int lgd_27, .ref sh, .ref vh])), (ch, .inr (0, [.ref ca, .int ccc, .int cac, .int cfc, .int clc])), (ca, .inl (cI, 10, .inl cf)), (bh, .inr (0, [.ref ba, .int bcc, .int bac, .int bfc, .int blc])), (ba, .inl (cI, 10, .inl bf_27)), (lg, .inl (cI, 12, .inl lgf_27)), (sh, .inr (2, [.ref sa, .int cnt, .int call])), (sa, .inl (cI, 12, .inl swf)), (vh, .inr (3, [.ref va])), (va, .inl (cI, 12, .inl fnf))]) [4, 5, 6, 7, 8, 9, 10, 11, 12, 13] rfl
                have hDc := hD.sub (ws' := [(xh, .inr (4, [.ref ch, .ref bh, .ref lg, .int lgd_27, .ref sh, .ref vh])), (ch, .inr (0, [.ref ca, .int ccc, .int cac, .int cfc, .int clc])), (ca, .inl (cI, 10, .inl cf)), (bh, .inr (0, [.ref ba, .int bcc, .int bac, .int bfc, .int blc])), (ba, .inl (cI, 10, .inl bf_27)), (lg, .inl (cI, 12, .inl lgf_27)), (sh, .inr (2, [.ref sa, .int cnt, .int call])), (sa, .inl (cI, 12, .inl swf)), (vh, .inr (3, [.ref va])), (va, .inl (cI, 12, .inl fnf))]) [4, 5, 6, 7, 8, 9, 10, 11, 12, 13] (by decide) rfl
                refine ff_callI (va_runV (As := [.int y_8]) (rest := [.int r_27]) ⟨hx, hb, hml, hown, hts⟩ (c_X4_sizeN l D cI xh ch ca bh ba lg sh sa vh va H.size lgd_27 ccc cac cfc clc cf bcc bac bfc blc bf_27 lgf_27 cnt call swf fnf y_8 p_31) (cwV 1 hts gL_step_X4_size rfl rfl rfl (by decide +kernel) ⟨Nat.le_of_ble_eq_true rfl, Nat.le_of_ble_eq_true rfl⟩) (ff_preV (q := (RX4, TX4, 6)) (ci := 4) (q0 := 0) hPc hK hDc hN rfl rfl) rfl rfl hl.1 rfl (lv_room (Nat.le_of_ble_eq_true rfl)) dL_step_262 ⟨Nat.le_of_ble_eq_true rfl, Nat.le_of_ble_eq_true rfl⟩) hP hD hS hA [4, 5, 6, 7, 8, 9, 10, 11, 12, 13] [0, 1, 2, 3] (wr := [(qb, .inl (cI, 12, .inl fb)), (qk, .inl (cI, 12, .inl fk)), (qg, .inl (cI, 3, .inl fg)), (ql, .inl (cI, 12, .inl fl))]) rfl rfl (by decide) (by decide) (fun r u H locs hw hP hD hS => ?_)
                replace hw := hw.symm
                subst hw
                have hP : va_P D vwCl [(qb, .inl (cI, 12, .inl fb)), (qk, .inl (cI, 12, .inl fk)), (qg, .inl (cI, 3, .inl fg)), (ql, .inl (cI, 12, .inl fl)), (xh, .inr (4, [.ref ch, .ref bh, .ref lg, .int lgd_27, .ref sh, .ref vh])), (ch, .inr (0, [.ref ca, .int ccc, .int cac, .int cfc, .int clc])), (ca, .inl (cI, 10, .inl cf)), (bh, .inr (0, [.ref ba, .int bcc, .int bac, .int bfc, .int blc])), (ba, .inl (cI, 10, .inl bf_27)), (lg, .inl (cI, 12, .inl lgf_27)), (sh, .inr (2, [.ref sa, .int cnt, .int call])), (sa, .inl (cI, 12, .inl swf)), (vh, .inr (3, [.ref va])), (va, .inl (cI, 12, .inl fnf))] H := hP
                have hD : va_D A [(qb, .inl (cI, 12, .inl fb)), (qk, .inl (cI, 12, .inl fk)), (qg, .inl (cI, 3, .inl fg)), (ql, .inl (cI, 12, .inl fl)), (xh, .inr (4, [.ref ch, .ref bh, .ref lg, .int lgd_27, .ref sh, .ref vh])), (ch, .inr (0, [.ref ca, .int ccc, .int cac, .int cfc, .int clc])), (ca, .inl (cI, 10, .inl cf)), (bh, .inr (0, [.ref ba, .int bcc, .int bac, .int bfc, .int blc])), (ba, .inl (cI, 10, .inl bf_27)), (lg, .inl (cI, 12, .inl lgf_27)), (sh, .inr (2, [.ref sa, .int cnt, .int call])), (sa, .inl (cI, 12, .inl swf)), (vh, .inr (3, [.ref va])), (va, .inl (cI, 12, .inl fnf))] := hD
                refine lv_goto (tgt := 270) hx hb dL_step_265 (by decide) ?_
                refine lv_icmp_ne (tgt := 277) hx hb dL_step_270 (by decide) (fun c_32 => ?_) (fun c_32 => ?_)
                · have h := h.2 c_32
                  refine lv_iconst (v := 0) hx hb dL_step_277 (by decide) ?_
                  exact hret 0 (ccc, cac, cfc, clc, cf, bcc, bac, bfc, blc, bf_27, lgf_27, lgd_27, cnt, call, swf, fnf, fb, fk, fg, fl) _ _ _ _ _ _ (by decide) h (hP.sub [4, 5, 6, 7, 8, 9, 10, 11, 12, 13, 0, 1, 2, 3] rfl) (hD.sub [4, 5, 6, 7, 8, 9, 10, 11, 12, 13, 0, 1, 2, 3] (by decide) rfl) hS (Nat.le_of_ble_eq_true rfl) (Nat.le_of_ble_eq_true rfl) dL_step_278
                · have h := h.1 c_32
                  refine lv_iconst (v := 1) hx hb dL_step_273 (by decide) ?_
                  refine lv_goto (tgt := 278) hx hb dL_step_274 (by decide) ?_
                  exact hret 1 (ccc, cac, cfc, clc, cf, bcc, bac, bfc, blc, bf_27, lgf_27, lgd_27, cnt, call, swf, fnf, fb, fk, fg, fl) _ _ _ _ _ _ (by decide) h (hP.sub [4, 5, 6, 7, 8, 9, 10, 11, 12, 13, 0, 1, 2, 3] rfl) (hD.sub [4, 5, 6, 7, 8, 9, 10, 11, 12, 13, 0, 1, 2, 3] (by decide) rfl) hS (Nat.le_of_ble_eq_true rfl) (Nat.le_of_ble_eq_true rfl) dL_step_278
            · have h := h.2 c_28
              refine lv_aload hx hb dL_step_239 (lv_at hl 8 rfl) ?_
              refine lv_aload hx hb dL_step_241 (lv_at hl 10 rfl) ?_
              refine lv_aload hx hb dL_step_243 (lv_at hl 11 rfl) ?_
              refine lv_iload hx hb dL_step_245 (lv_at hl 3 rfl) ?_
              refine lv_iload hx hb dL_step_247 (lv_at hl 2 rfl) ?_
              obtain ⟨p_33, h⟩ := h
              have hPc := hP.sub (ws' := [(qb, .inl (cI, 12, .inl fb)), (qg, .inl (cI, 3, .inl fg)), (ql, .inl (cI, 12, .inl fl))]) [0, 2, 3] rfl
              have hDc := hD.sub (ws' := [(qb, .inl (cI, 12, .inl fb)), (qg, .inl (cI, 3, .inl fg)), (ql, .inl (cI, 12, .inl fl))]) [0, 2, 3] (by decide) rfl
              refine ff_callV (va_runS (As := [.ref qb, .ref qg, .ref ql, .int y_8, .int y_23]) (rest := []) ⟨hx, hb, hml, hown, hts⟩ (c_L_noted l D cI qb qg ql H.size fb fg fl y_8 y_23 p_33) (va_cwS 5 hts gL_step_L_noted rfl rfl rfl (by decide +kernel) ⟨Nat.le_of_ble_eq_true rfl, Nat.le_of_ble_eq_true rfl⟩) (ff_preS hPc hK hDc hN) rfl rfl hl.1 rfl (lv_room (Nat.le_of_ble_eq_true rfl)) dL_step_249 ⟨Nat.le_of_ble_eq_true rfl, Nat.le_of_ble_eq_true rfl⟩) hP hD hS hA [0, 2, 3] [1, 4, 5, 6, 7, 8, 9, 10, 11, 12, 13] (wr := [(qk, .inl (cI, 12, .inl fk)), (xh, .inr (4, [.ref ch, .ref bh, .ref lg, .int lgd_27, .ref sh, .ref vh])), (ch, .inr (0, [.ref ca, .int ccc, .int cac, .int cfc, .int clc])), (ca, .inl (cI, 10, .inl cf)), (bh, .inr (0, [.ref ba, .int bcc, .int bac, .int bfc, .int blc])), (ba, .inl (cI, 10, .inl bf_27)), (lg, .inl (cI, 12, .inl lgf_27)), (sh, .inr (2, [.ref sa, .int cnt, .int call])), (sa, .inl (cI, 12, .inl swf)), (vh, .inr (3, [.ref va])), (va, .inl (cI, 12, .inl fnf))]) rfl rfl (by decide) (by decide) (fun u H locs hw hP hD hS => ?_)
              replace hw := hw.symm
              subst hw
              have hP : va_P D vwCl [(qk, .inl (cI, 12, .inl fk)), (xh, .inr (4, [.ref ch, .ref bh, .ref lg, .int lgd_27, .ref sh, .ref vh])), (ch, .inr (0, [.ref ca, .int ccc, .int cac, .int cfc, .int clc])), (ca, .inl (cI, 10, .inl cf)), (bh, .inr (0, [.ref ba, .int bcc, .int bac, .int bfc, .int blc])), (ba, .inl (cI, 10, .inl bf_27)), (lg, .inl (cI, 12, .inl lgf_27)), (sh, .inr (2, [.ref sa, .int cnt, .int call])), (sa, .inl (cI, 12, .inl swf)), (vh, .inr (3, [.ref va])), (va, .inl (cI, 12, .inl fnf)), (qb, .inl (cI, 12, .inl (upd fb y_8.toNatClampNeg y_23))), (qg, .inl (cI, 3, .inl (upd fg 2 (fg 2 + 1)))), (ql, .inl (cI, 12, .inl (upd fl (fg 2).toNatClampNeg y_8)))] H := hP
              have hD : va_D A [(qk, .inl (cI, 12, .inl fk)), (xh, .inr (4, [.ref ch, .ref bh, .ref lg, .int lgd_27, .ref sh, .ref vh])), (ch, .inr (0, [.ref ca, .int ccc, .int cac, .int cfc, .int clc])), (ca, .inl (cI, 10, .inl cf)), (bh, .inr (0, [.ref ba, .int bcc, .int bac, .int bfc, .int blc])), (ba, .inl (cI, 10, .inl bf_27)), (lg, .inl (cI, 12, .inl lgf_27)), (sh, .inr (2, [.ref sa, .int cnt, .int call])), (sa, .inl (cI, 12, .inl swf)), (vh, .inr (3, [.ref va])), (va, .inl (cI, 12, .inl fnf)), (qb, .inl (cI, 12, .inl (upd fb y_8.toNatClampNeg y_23))), (qg, .inl (cI, 3, .inl (upd fg 2 (fg 2 + 1)))), (ql, .inl (cI, 12, .inl (upd fl (fg 2).toNatClampNeg y_8)))] := hD
              refine lv_iload hx hb dL_step_252 (lv_at hl 0 rfl) ?_
              refine lv_iload hx hb dL_step_254 (lv_at hl 1 rfl) ?_
              refine lv_if_eq (tgt := 268) hx hb dL_step_256 (by decide) (fun c_34 => ?_) (fun c_34 => ?_)
              · have h := h.1 c_34
                refine lv_bipush (v := (-8)) hx hb dL_step_268 (by decide) ?_
                refine lv_icmp_ne (tgt := 277) hx hb dL_step_270 (by decide) (fun c_35 => ?_) (fun c_35 => ?_)
                · have h := h.2 c_35
                  refine lv_iconst (v := 0) hx hb dL_step_277 (by decide) ?_
                  exact hret 0 (ccc, cac, cfc, clc, cf, bcc, bac, bfc, blc, bf_27, lgf_27, lgd_27, cnt, call, swf, fnf, upd fb y_8.toNatClampNeg y_23, fk, upd fg 2 (fg 2 + 1), upd fl (fg 2).toNatClampNeg y_8) _ _ _ _ _ _ (by decide) h (hP.sub [1, 2, 3, 4, 5, 6, 7, 8, 9, 10, 11, 0, 12, 13] rfl) (hD.sub [1, 2, 3, 4, 5, 6, 7, 8, 9, 10, 11, 0, 12, 13] (by decide) rfl) hS (Nat.le_of_ble_eq_true rfl) (Nat.le_of_ble_eq_true rfl) dL_step_278
                · have h := h.1 c_35
                  refine lv_iconst (v := 1) hx hb dL_step_273 (by decide) ?_
                  refine lv_goto (tgt := 278) hx hb dL_step_274 (by decide) ?_
                  exact hret 1 (ccc, cac, cfc, clc, cf, bcc, bac, bfc, blc, bf_27, lgf_27, lgd_27, cnt, call, swf, fnf, upd fb y_8.toNatClampNeg y_23, fk, upd fg 2 (fg 2 + 1), upd fl (fg 2).toNatClampNeg y_8) _ _ _ _ _ _ (by decide) h (hP.sub [1, 2, 3, 4, 5, 6, 7, 8, 9, 10, 11, 0, 12, 13] rfl) (hD.sub [1, 2, 3, 4, 5, 6, 7, 8, 9, 10, 11, 0, 12, 13] (by decide) rfl) hS (Nat.le_of_ble_eq_true rfl) (Nat.le_of_ble_eq_true rfl) dL_step_278
              · have h := h.2 c_34
                refine lv_aload_n hx hb dL_step_259 rfl (lv_at hl 4 rfl) ?_
                refine lv_iload hx hb dL_step_260 (lv_at hl 3 rfl) ?_
                obtain ⟨p_36, h⟩ := h
                have hPc := hP.sub (ws' := [(xh, .inr (4, [.ref ch, .ref bh, .ref lg, .int lgd_27, .ref sh, .ref vh])), (ch, .inr (0, [.ref ca, .int ccc, .int cac, .int cfc, .int clc])), (ca, .inl (cI, 10, .inl cf)), (bh, .inr (0, [.ref ba, .int bcc, .int bac, .int bfc, .int blc])), (ba, .inl (cI, 10, .inl bf_27)), (lg, .inl (cI, 12, .inl lgf_27)), (sh, .inr (2, [.ref sa, .int cnt, .int call])), (sa, .inl (cI, 12, .inl swf)), (vh, .inr (3, [.ref va])), (va, .inl (cI, 12, .inl fnf))]) [1, 2, 3, 4, 5, 6, 7, 8, 9, 10] rfl
                have hDc := hD.sub (ws' := [(xh, .inr (4, [.ref ch, .ref bh, .ref lg, .int lgd_27, .ref sh, .ref vh])), (ch, .inr (0, [.ref ca, .int ccc, .int cac, .int cfc, .int clc])), (ca, .inl (cI, 10, .inl cf)), (bh, .inr (0, [.ref ba, .int bcc, .int bac, .int bfc, .int blc])), (ba, .inl (cI, 10, .inl bf_27)), (lg, .inl (cI, 12, .inl lgf_27)), (sh, .inr (2, [.ref sa, .int cnt, .int call])), (sa, .inl (cI, 12, .inl swf)), (vh, .inr (3, [.ref va])), (va, .inl (cI, 12, .inl fnf))]) [1, 2, 3, 4, 5, 6, 7, 8, 9, 10] (by decide) rfl
                refine ff_callI (va_runV (As := [.int y_8]) (rest := [.int r_27]) ⟨hx, hb, hml, hown, hts⟩ (c_X4_sizeN l D cI xh ch ca bh ba lg sh sa vh va H.size lgd_27 ccc cac cfc clc cf bcc bac bfc blc bf_27 lgf_27 cnt call swf fnf y_8 p_36) (cwV 1 hts gL_step_X4_size rfl rfl rfl (by decide +kernel) ⟨Nat.le_of_ble_eq_true rfl, Nat.le_of_ble_eq_true rfl⟩) (ff_preV (q := (RX4, TX4, 6)) (ci := 4) (q0 := 0) hPc hK hDc hN rfl rfl) rfl rfl hl.1 rfl (lv_room (Nat.le_of_ble_eq_true rfl)) dL_step_262 ⟨Nat.le_of_ble_eq_true rfl, Nat.le_of_ble_eq_true rfl⟩) hP hD hS hA [1, 2, 3, 4, 5, 6, 7, 8, 9, 10] [0, 11, 12, 13] (wr := [(qk, .inl (cI, 12, .inl fk)), (qb, .inl (cI, 12, .inl (upd fb y_8.toNatClampNeg y_23))), (qg, .inl (cI, 3, .inl (upd fg 2 (fg 2 + 1)))), (ql, .inl (cI, 12, .inl (upd fl (fg 2).toNatClampNeg y_8)))]) rfl rfl (by decide) (by decide) (fun r u H locs hw hP hD hS => ?_)
                replace hw := hw.symm
                subst hw
                have hP : va_P D vwCl [(qk, .inl (cI, 12, .inl fk)), (qb, .inl (cI, 12, .inl (upd fb y_8.toNatClampNeg y_23))), (qg, .inl (cI, 3, .inl (upd fg 2 (fg 2 + 1)))), (ql, .inl (cI, 12, .inl (upd fl (fg 2).toNatClampNeg y_8))), (xh, .inr (4, [.ref ch, .ref bh, .ref lg, .int lgd_27, .ref sh, .ref vh])), (ch, .inr (0, [.ref ca, .int ccc, .int cac, .int cfc, .int clc])), (ca, .inl (cI, 10, .inl cf)), (bh, .inr (0, [.ref ba, .int bcc, .int bac, .int bfc, .int blc])), (ba, .inl (cI, 10, .inl bf_27)), (lg, .inl (cI, 12, .inl lgf_27)), (sh, .inr (2, [.ref sa, .int cnt, .int call])), (sa, .inl (cI, 12, .inl swf)), (vh, .inr (3, [.ref va])), (va, .inl (cI, 12, .inl fnf))] H := hP
                have hD : va_D A [(qk, .inl (cI, 12, .inl fk)), (qb, .inl (cI, 12, .inl (upd fb y_8.toNatClampNeg y_23))), (qg, .inl (cI, 3, .inl (upd fg 2 (fg 2 + 1)))), (ql, .inl (cI, 12, .inl (upd fl (fg 2).toNatClampNeg y_8))), (xh, .inr (4, [.ref ch, .ref bh, .ref lg, .int lgd_27, .ref sh, .ref vh])), (ch, .inr (0, [.ref ca, .int ccc, .int cac, .int cfc, .int clc])), (ca, .inl (cI, 10, .inl cf)), (bh, .inr (0, [.ref ba, .int bcc, .int bac, .int bfc, .int blc])), (ba, .inl (cI, 10, .inl bf_27)), (lg, .inl (cI, 12, .inl lgf_27)), (sh, .inr (2, [.ref sa, .int cnt, .int call])), (sa, .inl (cI, 12, .inl swf)), (vh, .inr (3, [.ref va])), (va, .inl (cI, 12, .inl fnf))] := hD
                refine lv_goto (tgt := 270) hx hb dL_step_265 (by decide) ?_
                refine lv_icmp_ne (tgt := 277) hx hb dL_step_270 (by decide) (fun c_37 => ?_) (fun c_37 => ?_)
                · have h := h.2 c_37
                  refine lv_iconst (v := 0) hx hb dL_step_277 (by decide) ?_
                  exact hret 0 (ccc, cac, cfc, clc, cf, bcc, bac, bfc, blc, bf_27, lgf_27, lgd_27, cnt, call, swf, fnf, upd fb y_8.toNatClampNeg y_23, fk, upd fg 2 (fg 2 + 1), upd fl (fg 2).toNatClampNeg y_8) _ _ _ _ _ _ (by decide) h (hP.sub [4, 5, 6, 7, 8, 9, 10, 11, 12, 13, 1, 0, 2, 3] rfl) (hD.sub [4, 5, 6, 7, 8, 9, 10, 11, 12, 13, 1, 0, 2, 3] (by decide) rfl) hS (Nat.le_of_ble_eq_true rfl) (Nat.le_of_ble_eq_true rfl) dL_step_278
                · have h := h.1 c_37
                  refine lv_iconst (v := 1) hx hb dL_step_273 (by decide) ?_
                  refine lv_goto (tgt := 278) hx hb dL_step_274 (by decide) ?_
                  exact hret 1 (ccc, cac, cfc, clc, cf, bcc, bac, bfc, blc, bf_27, lgf_27, lgd_27, cnt, call, swf, fnf, upd fb y_8.toNatClampNeg y_23, fk, upd fg 2 (fg 2 + 1), upd fl (fg 2).toNatClampNeg y_8) _ _ _ _ _ _ (by decide) h (hP.sub [4, 5, 6, 7, 8, 9, 10, 11, 12, 13, 1, 0, 2, 3] rfl) (hD.sub [4, 5, 6, 7, 8, 9, 10, 11, 12, 13, 1, 0, 2, 3] (by decide) rfl) hS (Nat.le_of_ble_eq_true rfl) (Nat.le_of_ble_eq_true rfl) dL_step_278
          · have h := h.1 c_22
            refine lv_iconst (v := 1) hx hb dL_step_194 (by decide) ?_
            refine lv_iload_n hx hb dL_step_195 rfl (lv_at hl 4 rfl) ?_
            refine lv_iconst (v := 3) hx hb dL_step_196 (by decide) ?_
            refine lv_idiv hx hb dL_step_197 (by decide) ?_
            refine lv_bipush (v := 9) hx hb dL_step_198 (by decide) ?_
            refine lv_irem hx hb dL_step_200 (by decide) ?_
            refine lv_iadd hx hb dL_step_201 ?_
            refine lv_goto (tgt := 212) hx hb dL_step_202 (by decide) ?_
            refine lv_topi (fun y_38 ey_38 => ?_)
            have h := h y_38 ey_38
            refine lv_istore (lv' := [(9, .int y_38), (8, .int y_8), (0, .ref xh), (1, .int p1), (2, .int p2), (3, .int p3), (4, .ref qb), (5, .ref qk), (6, .ref qg), (7, .ref ql)]) hx hb dL_step_212 hl (by decide) rfl (fun ls hl => ?_)
            refine lv_aload_n hx hb dL_step_214 rfl (lv_at hl 2 rfl) ?_
            refine lv_iload hx hb dL_step_215 (lv_at hl 1 rfl) ?_
            refine lv_iload hx hb dL_step_217 (lv_at hl 0 rfl) ?_
            obtain ⟨p_39, h⟩ := h
            have hPc := hP.sub (ws' := [(xh, .inr (4, [.ref ch, .ref bh, .ref lg, .int lgd, .ref sh, .ref vh])), (ch, .inr (0, [.ref ca, .int ccc, .int cac, .int cfc, .int clc])), (ca, .inl (cI, 10, .inl cf)), (bh, .inr (0, [.ref ba, .int bcc, .int bac, .int bfc, .int blc])), (ba, .inl (cI, 10, .inl bf)), (lg, .inl (cI, 12, .inl lgf)), (sh, .inr (2, [.ref sa, .int cnt, .int call])), (sa, .inl (cI, 12, .inl swf)), (vh, .inr (3, [.ref va])), (va, .inl (cI, 12, .inl fnf))]) [0, 1, 2, 3, 4, 5, 6, 7, 8, 9] rfl
            have hDc := hD.sub (ws' := [(xh, .inr (4, [.ref ch, .ref bh, .ref lg, .int lgd, .ref sh, .ref vh])), (ch, .inr (0, [.ref ca, .int ccc, .int cac, .int cfc, .int clc])), (ca, .inl (cI, 10, .inl cf)), (bh, .inr (0, [.ref ba, .int bcc, .int bac, .int bfc, .int blc])), (ba, .inl (cI, 10, .inl bf)), (lg, .inl (cI, 12, .inl lgf)), (sh, .inr (2, [.ref sa, .int cnt, .int call])), (sa, .inl (cI, 12, .inl swf)), (vh, .inr (3, [.ref va])), (va, .inl (cI, 12, .inl fnf))]) [0, 1, 2, 3, 4, 5, 6, 7, 8, 9] (by decide) rfl
            refine ff_callI (va_runV (As := [.int y_8, .int y_38]) (rest := []) ⟨hx, hb, hml, hown, hts⟩ (c_X4_canBeN l D cI xh ch ca bh ba lg sh sa vh va H.size lgd ccc cac cfc clc cf bcc bac bfc blc bf lgf cnt call swf fnf y_8 y_38 p_39) (cwV 2 hts gL_step_X4_canBe rfl rfl rfl (by decide +kernel) ⟨Nat.le_of_ble_eq_true rfl, Nat.le_of_ble_eq_true rfl⟩) (ff_preV (q := (RX4, TX4, 6)) (ci := 4) (q0 := 0) hPc hK hDc hN rfl rfl) rfl rfl hl.1 rfl (lv_room (Nat.le_of_ble_eq_true rfl)) dL_step_219 ⟨Nat.le_of_ble_eq_true rfl, Nat.le_of_ble_eq_true rfl⟩) hP hD hS hA [0, 1, 2, 3, 4, 5, 6, 7, 8, 9] [10, 11, 12, 13] (wr := [(qb, .inl (cI, 12, .inl fb)), (qk, .inl (cI, 12, .inl fk)), (qg, .inl (cI, 3, .inl fg)), (ql, .inl (cI, 12, .inl fl))]) rfl rfl (by decide) (by decide) (fun r u H locs hw hP hD hS => ?_)
            obtain ⟨e0_w, e1_w⟩ := hw
            replace e0_w := e0_w.symm
            subst e0_w
            replace e1_w := e1_w.symm
            subst e1_w
            have hP : va_P D vwCl [(qb, .inl (cI, 12, .inl fb)), (qk, .inl (cI, 12, .inl fk)), (qg, .inl (cI, 3, .inl fg)), (ql, .inl (cI, 12, .inl fl)), (xh, .inr (4, [.ref ch, .ref bh, .ref lg, .int lgd, .ref sh, .ref vh])), (ch, .inr (0, [.ref ca, .int ccc, .int cac, .int cfc, .int clc])), (ca, .inl (cI, 10, .inl cf)), (bh, .inr (0, [.ref ba, .int bcc, .int bac, .int bfc, .int blc])), (ba, .inl (cI, 10, .inl bf)), (lg, .inl (cI, 12, .inl lgf)), (sh, .inr (2, [.ref sa, .int cnt, .int call])), (sa, .inl (cI, 12, .inl swf)), (vh, .inr (3, [.ref va])), (va, .inl (cI, 12, .inl fnf))] H := hP
            have hD : va_D A [(qb, .inl (cI, 12, .inl fb)), (qk, .inl (cI, 12, .inl fk)), (qg, .inl (cI, 3, .inl fg)), (ql, .inl (cI, 12, .inl fl)), (xh, .inr (4, [.ref ch, .ref bh, .ref lg, .int lgd, .ref sh, .ref vh])), (ch, .inr (0, [.ref ca, .int ccc, .int cac, .int cfc, .int clc])), (ca, .inl (cI, 10, .inl cf)), (bh, .inr (0, [.ref ba, .int bcc, .int bac, .int bfc, .int blc])), (ba, .inl (cI, 10, .inl bf)), (lg, .inl (cI, 12, .inl lgf)), (sh, .inr (2, [.ref sa, .int cnt, .int call])), (sa, .inl (cI, 12, .inl swf)), (vh, .inr (3, [.ref va])), (va, .inl (cI, 12, .inl fnf))] := hD
            refine lv_topi (fun y_40 ey_40 => ?_)
            have h := h y_40 ey_40
            refine lv_istore (lv' := [(10, .int y_40), (9, .int y_38), (8, .int y_8), (0, .ref xh), (1, .int p1), (2, .int p2), (3, .int p3), (4, .ref qb), (5, .ref qk), (6, .ref qg), (7, .ref ql)]) hx hb dL_step_222 hl (by decide) rfl (fun ls hl => ?_)
            refine lv_aload_n hx hb dL_step_224 rfl (lv_at hl 3 rfl) ?_
            refine lv_iload hx hb dL_step_225 (lv_at hl 2 rfl) ?_
            refine lv_iload hx hb dL_step_227 (lv_at hl 1 rfl) ?_
            obtain ⟨p_41, h⟩ := h
            have hPc := hP.sub (ws' := [(xh, .inr (4, [.ref ch, .ref bh, .ref lg, .int lgd, .ref sh, .ref vh])), (ch, .inr (0, [.ref ca, .int ccc, .int cac, .int cfc, .int clc])), (ca, .inl (cI, 10, .inl cf)), (bh, .inr (0, [.ref ba, .int bcc, .int bac, .int bfc, .int blc])), (ba, .inl (cI, 10, .inl bf)), (lg, .inl (cI, 12, .inl lgf)), (sh, .inr (2, [.ref sa, .int cnt, .int call])), (sa, .inl (cI, 12, .inl swf)), (vh, .inr (3, [.ref va])), (va, .inl (cI, 12, .inl fnf))]) [4, 5, 6, 7, 8, 9, 10, 11, 12, 13] rfl
            have hDc := hD.sub (ws' := [(xh, .inr (4, [.ref ch, .ref bh, .ref lg, .int lgd, .ref sh, .ref vh])), (ch, .inr (0, [.ref ca, .int ccc, .int cac, .int cfc, .int clc])), (ca, .inl (cI, 10, .inl cf)), (bh, .inr (0, [.ref ba, .int bcc, .int bac, .int bfc, .int blc])), (ba, .inl (cI, 10, .inl bf)), (lg, .inl (cI, 12, .inl lgf)), (sh, .inr (2, [.ref sa, .int cnt, .int call])), (sa, .inl (cI, 12, .inl swf)), (vh, .inr (3, [.ref va])), (va, .inl (cI, 12, .inl fnf))]) [4, 5, 6, 7, 8, 9, 10, 11, 12, 13] (by decide) rfl
            refine ff_callI (vx_runSW (As := [.ref xh, .int y_8, .int y_38]) (rest := []) ⟨hx, hb, hml, hown, hts⟩ (c_L_fills l hst D cI xh ch ca bh ba lg sh sa vh va H.size lgd ccc cac cfc clc cf bcc bac bfc blc bf lgf cnt call swf fnf y_8 y_38 p_41) (vx_cwSW 3 hts gL_step_L_fills rfl rfl rfl (by decide +kernel) ⟨Nat.le_of_ble_eq_true rfl, Nat.le_of_ble_eq_true rfl⟩) (ffx_preS hPc hK hDc hN hZ hS (va_free hD hS hA [4, 5, 6, 7, 8, 9, 10, 11, 12, 13] rfl)) rfl rfl hl.1 rfl (lv_room (Nat.le_of_ble_eq_true rfl)) dL_step_229 ⟨Nat.le_of_ble_eq_true rfl, Nat.le_of_ble_eq_true rfl⟩) hP hD hS hA [4, 5, 6, 7, 8, 9, 10, 11, 12, 13] [0, 1, 2, 3] (wr := [(qb, .inl (cI, 12, .inl fb)), (qk, .inl (cI, 12, .inl fk)), (qg, .inl (cI, 3, .inl fg)), (ql, .inl (cI, 12, .inl fl))]) rfl rfl (by decide) (by decide) (fun r u H locs hw hP hD hS => ?_)
            obtain ⟨r_42, er_42⟩ : ∃ z, z = r := ⟨_, rfl⟩
            subst er_42
            obtain ⟨bf_42, lgf_42, lgd_42⟩ := u
            have hw : ((zxf bcc bac bfc blc bf y_8 y_38 = 0 → r_42 = bc (zfo bcc bac bfc blc (if zlg lgd then zwr bf y_8 y_38 else bf) y_8) ∧ bf_42 = (if zlg lgd then zwr bf y_8 y_38 else bf) ∧ lgf_42 = (if zlg lgd then upd lgf lgd.toNatClampNeg y_8 else lgf) ∧ lgd_42 = (if zlg lgd then lgd + 1 else lgd)) ∧ (¬ zxf bcc bac bfc blc bf y_8 y_38 = 0 → r_42 = -8 ∧ bf_42 = bf ∧ lgf_42 = lgf ∧ lgd_42 = lgd)) := hw
            have hrel := hw
            have h := h r_42 bf_42 lgf_42 lgd_42
            have h := h hrel
            have hP : va_P D vwCl [(qb, .inl (cI, 12, .inl fb)), (qk, .inl (cI, 12, .inl fk)), (qg, .inl (cI, 3, .inl fg)), (ql, .inl (cI, 12, .inl fl)), (xh, .inr (4, [.ref ch, .ref bh, .ref lg, .int lgd_42, .ref sh, .ref vh])), (ch, .inr (0, [.ref ca, .int ccc, .int cac, .int cfc, .int clc])), (ca, .inl (cI, 10, .inl cf)), (bh, .inr (0, [.ref ba, .int bcc, .int bac, .int bfc, .int blc])), (ba, .inl (cI, 10, .inl bf_42)), (lg, .inl (cI, 12, .inl lgf_42)), (sh, .inr (2, [.ref sa, .int cnt, .int call])), (sa, .inl (cI, 12, .inl swf)), (vh, .inr (3, [.ref va])), (va, .inl (cI, 12, .inl fnf))] H := hP
            have hD : va_D A [(qb, .inl (cI, 12, .inl fb)), (qk, .inl (cI, 12, .inl fk)), (qg, .inl (cI, 3, .inl fg)), (ql, .inl (cI, 12, .inl fl)), (xh, .inr (4, [.ref ch, .ref bh, .ref lg, .int lgd_42, .ref sh, .ref vh])), (ch, .inr (0, [.ref ca, .int ccc, .int cac, .int cfc, .int clc])), (ca, .inl (cI, 10, .inl cf)), (bh, .inr (0, [.ref ba, .int bcc, .int bac, .int bfc, .int blc])), (ba, .inl (cI, 10, .inl bf_42)), (lg, .inl (cI, 12, .inl lgf_42)), (sh, .inr (2, [.ref sa, .int cnt, .int call])), (sa, .inl (cI, 12, .inl swf)), (vh, .inr (3, [.ref va])), (va, .inl (cI, 12, .inl fnf))] := hD
            refine lv_istore (lv' := [(11, .int r_42), (10, .int y_40), (9, .int y_38), (8, .int y_8), (0, .ref xh), (1, .int p1), (2, .int p2), (3, .int p3), (4, .ref qb), (5, .ref qk), (6, .ref qg), (7, .ref ql)]) hx hb dL_step_232 hl (by decide) rfl (fun ls hl => ?_)
            refine lv_iload hx hb dL_step_234 (lv_at hl 1 rfl) ?_
            refine lv_if_eq (tgt := 252) hx hb dL_step_236 (by decide) (fun c_43 => ?_) (fun c_43 => ?_)
            · have h := h.1 c_43
              refine lv_iload hx hb dL_step_252 (lv_at hl 0 rfl) ?_
              refine lv_iload hx hb dL_step_254 (lv_at hl 1 rfl) ?_
              refine lv_if_eq (tgt := 268) hx hb dL_step_256 (by decide) (fun c_44 => ?_) (fun c_44 => ?_)
              · have h := h.1 c_44
                refine lv_bipush (v := (-8)) hx hb dL_step_268 (by decide) ?_
                refine lv_icmp_ne (tgt := 277) hx hb dL_step_270 (by decide) (fun c_45 => ?_) (fun c_45 => ?_)
                · have h := h.2 c_45
                  refine lv_iconst (v := 0) hx hb dL_step_277 (by decide) ?_
                  exact hret 0 (ccc, cac, cfc, clc, cf, bcc, bac, bfc, blc, bf_42, lgf_42, lgd_42, cnt, call, swf, fnf, fb, fk, fg, fl) _ _ _ _ _ _ (by decide) h (hP.sub [4, 5, 6, 7, 8, 9, 10, 11, 12, 13, 0, 1, 2, 3] rfl) (hD.sub [4, 5, 6, 7, 8, 9, 10, 11, 12, 13, 0, 1, 2, 3] (by decide) rfl) hS (Nat.le_of_ble_eq_true rfl) (Nat.le_of_ble_eq_true rfl) dL_step_278
                · have h := h.1 c_45
                  refine lv_iconst (v := 1) hx hb dL_step_273 (by decide) ?_
                  refine lv_goto (tgt := 278) hx hb dL_step_274 (by decide) ?_
                  exact hret 1 (ccc, cac, cfc, clc, cf, bcc, bac, bfc, blc, bf_42, lgf_42, lgd_42, cnt, call, swf, fnf, fb, fk, fg, fl) _ _ _ _ _ _ (by decide) h (hP.sub [4, 5, 6, 7, 8, 9, 10, 11, 12, 13, 0, 1, 2, 3] rfl) (hD.sub [4, 5, 6, 7, 8, 9, 10, 11, 12, 13, 0, 1, 2, 3] (by decide) rfl) hS (Nat.le_of_ble_eq_true rfl) (Nat.le_of_ble_eq_true rfl) dL_step_278
              · have h := h.2 c_44
                refine lv_aload_n hx hb dL_step_259 rfl (lv_at hl 4 rfl) ?_
                refine lv_iload hx hb dL_step_260 (lv_at hl 3 rfl) ?_
                obtain ⟨p_46, h⟩ := h
                have hPc := hP.sub (ws' := [(xh, .inr (4, [.ref ch, .ref bh, .ref lg, .int lgd_42, .ref sh, .ref vh])), (ch, .inr (0, [.ref ca, .int ccc, .int cac, .int cfc, .int clc])), (ca, .inl (cI, 10, .inl cf)), (bh, .inr (0, [.ref ba, .int bcc, .int bac, .int bfc, .int blc])), (ba, .inl (cI, 10, .inl bf_42)), (lg, .inl (cI, 12, .inl lgf_42)), (sh, .inr (2, [.ref sa, .int cnt, .int call])), (sa, .inl (cI, 12, .inl swf)), (vh, .inr (3, [.ref va])), (va, .inl (cI, 12, .inl fnf))]) [4, 5, 6, 7, 8, 9, 10, 11, 12, 13] rfl
                have hDc := hD.sub (ws' := [(xh, .inr (4, [.ref ch, .ref bh, .ref lg, .int lgd_42, .ref sh, .ref vh])), (ch, .inr (0, [.ref ca, .int ccc, .int cac, .int cfc, .int clc])), (ca, .inl (cI, 10, .inl cf)), (bh, .inr (0, [.ref ba, .int bcc, .int bac, .int bfc, .int blc])), (ba, .inl (cI, 10, .inl bf_42)), (lg, .inl (cI, 12, .inl lgf_42)), (sh, .inr (2, [.ref sa, .int cnt, .int call])), (sa, .inl (cI, 12, .inl swf)), (vh, .inr (3, [.ref va])), (va, .inl (cI, 12, .inl fnf))]) [4, 5, 6, 7, 8, 9, 10, 11, 12, 13] (by decide) rfl
                refine ff_callI (va_runV (As := [.int y_8]) (rest := [.int r_42]) ⟨hx, hb, hml, hown, hts⟩ (c_X4_sizeN l D cI xh ch ca bh ba lg sh sa vh va H.size lgd_42 ccc cac cfc clc cf bcc bac bfc blc bf_42 lgf_42 cnt call swf fnf y_8 p_46) (cwV 1 hts gL_step_X4_size rfl rfl rfl (by decide +kernel) ⟨Nat.le_of_ble_eq_true rfl, Nat.le_of_ble_eq_true rfl⟩) (ff_preV (q := (RX4, TX4, 6)) (ci := 4) (q0 := 0) hPc hK hDc hN rfl rfl) rfl rfl hl.1 rfl (lv_room (Nat.le_of_ble_eq_true rfl)) dL_step_262 ⟨Nat.le_of_ble_eq_true rfl, Nat.le_of_ble_eq_true rfl⟩) hP hD hS hA [4, 5, 6, 7, 8, 9, 10, 11, 12, 13] [0, 1, 2, 3] (wr := [(qb, .inl (cI, 12, .inl fb)), (qk, .inl (cI, 12, .inl fk)), (qg, .inl (cI, 3, .inl fg)), (ql, .inl (cI, 12, .inl fl))]) rfl rfl (by decide) (by decide) (fun r u H locs hw hP hD hS => ?_)
                replace hw := hw.symm
                subst hw
                have hP : va_P D vwCl [(qb, .inl (cI, 12, .inl fb)), (qk, .inl (cI, 12, .inl fk)), (qg, .inl (cI, 3, .inl fg)), (ql, .inl (cI, 12, .inl fl)), (xh, .inr (4, [.ref ch, .ref bh, .ref lg, .int lgd_42, .ref sh, .ref vh])), (ch, .inr (0, [.ref ca, .int ccc, .int cac, .int cfc, .int clc])), (ca, .inl (cI, 10, .inl cf)), (bh, .inr (0, [.ref ba, .int bcc, .int bac, .int bfc, .int blc])), (ba, .inl (cI, 10, .inl bf_42)), (lg, .inl (cI, 12, .inl lgf_42)), (sh, .inr (2, [.ref sa, .int cnt, .int call])), (sa, .inl (cI, 12, .inl swf)), (vh, .inr (3, [.ref va])), (va, .inl (cI, 12, .inl fnf))] H := hP
                have hD : va_D A [(qb, .inl (cI, 12, .inl fb)), (qk, .inl (cI, 12, .inl fk)), (qg, .inl (cI, 3, .inl fg)), (ql, .inl (cI, 12, .inl fl)), (xh, .inr (4, [.ref ch, .ref bh, .ref lg, .int lgd_42, .ref sh, .ref vh])), (ch, .inr (0, [.ref ca, .int ccc, .int cac, .int cfc, .int clc])), (ca, .inl (cI, 10, .inl cf)), (bh, .inr (0, [.ref ba, .int bcc, .int bac, .int bfc, .int blc])), (ba, .inl (cI, 10, .inl bf_42)), (lg, .inl (cI, 12, .inl lgf_42)), (sh, .inr (2, [.ref sa, .int cnt, .int call])), (sa, .inl (cI, 12, .inl swf)), (vh, .inr (3, [.ref va])), (va, .inl (cI, 12, .inl fnf))] := hD
                refine lv_goto (tgt := 270) hx hb dL_step_265 (by decide) ?_
                refine lv_icmp_ne (tgt := 277) hx hb dL_step_270 (by decide) (fun c_47 => ?_) (fun c_47 => ?_)
                · have h := h.2 c_47
                  refine lv_iconst (v := 0) hx hb dL_step_277 (by decide) ?_
                  exact hret 0 (ccc, cac, cfc, clc, cf, bcc, bac, bfc, blc, bf_42, lgf_42, lgd_42, cnt, call, swf, fnf, fb, fk, fg, fl) _ _ _ _ _ _ (by decide) h (hP.sub [4, 5, 6, 7, 8, 9, 10, 11, 12, 13, 0, 1, 2, 3] rfl) (hD.sub [4, 5, 6, 7, 8, 9, 10, 11, 12, 13, 0, 1, 2, 3] (by decide) rfl) hS (Nat.le_of_ble_eq_true rfl) (Nat.le_of_ble_eq_true rfl) dL_step_278
                · have h := h.1 c_47
                  refine lv_iconst (v := 1) hx hb dL_step_273 (by decide) ?_
                  refine lv_goto (tgt := 278) hx hb dL_step_274 (by decide) ?_
                  exact hret 1 (ccc, cac, cfc, clc, cf, bcc, bac, bfc, blc, bf_42, lgf_42, lgd_42, cnt, call, swf, fnf, fb, fk, fg, fl) _ _ _ _ _ _ (by decide) h (hP.sub [4, 5, 6, 7, 8, 9, 10, 11, 12, 13, 0, 1, 2, 3] rfl) (hD.sub [4, 5, 6, 7, 8, 9, 10, 11, 12, 13, 0, 1, 2, 3] (by decide) rfl) hS (Nat.le_of_ble_eq_true rfl) (Nat.le_of_ble_eq_true rfl) dL_step_278
            · have h := h.2 c_43
              refine lv_aload hx hb dL_step_239 (lv_at hl 8 rfl) ?_
              refine lv_aload hx hb dL_step_241 (lv_at hl 10 rfl) ?_
              refine lv_aload hx hb dL_step_243 (lv_at hl 11 rfl) ?_
              refine lv_iload hx hb dL_step_245 (lv_at hl 3 rfl) ?_
              refine lv_iload hx hb dL_step_247 (lv_at hl 2 rfl) ?_
              obtain ⟨p_48, h⟩ := h
              have hPc := hP.sub (ws' := [(qb, .inl (cI, 12, .inl fb)), (qg, .inl (cI, 3, .inl fg)), (ql, .inl (cI, 12, .inl fl))]) [0, 2, 3] rfl
              have hDc := hD.sub (ws' := [(qb, .inl (cI, 12, .inl fb)), (qg, .inl (cI, 3, .inl fg)), (ql, .inl (cI, 12, .inl fl))]) [0, 2, 3] (by decide) rfl
              refine ff_callV (va_runS (As := [.ref qb, .ref qg, .ref ql, .int y_8, .int y_38]) (rest := []) ⟨hx, hb, hml, hown, hts⟩ (c_L_noted l D cI qb qg ql H.size fb fg fl y_8 y_38 p_48) (va_cwS 5 hts gL_step_L_noted rfl rfl rfl (by decide +kernel) ⟨Nat.le_of_ble_eq_true rfl, Nat.le_of_ble_eq_true rfl⟩) (ff_preS hPc hK hDc hN) rfl rfl hl.1 rfl (lv_room (Nat.le_of_ble_eq_true rfl)) dL_step_249 ⟨Nat.le_of_ble_eq_true rfl, Nat.le_of_ble_eq_true rfl⟩) hP hD hS hA [0, 2, 3] [1, 4, 5, 6, 7, 8, 9, 10, 11, 12, 13] (wr := [(qk, .inl (cI, 12, .inl fk)), (xh, .inr (4, [.ref ch, .ref bh, .ref lg, .int lgd_42, .ref sh, .ref vh])), (ch, .inr (0, [.ref ca, .int ccc, .int cac, .int cfc, .int clc])), (ca, .inl (cI, 10, .inl cf)), (bh, .inr (0, [.ref ba, .int bcc, .int bac, .int bfc, .int blc])), (ba, .inl (cI, 10, .inl bf_42)), (lg, .inl (cI, 12, .inl lgf_42)), (sh, .inr (2, [.ref sa, .int cnt, .int call])), (sa, .inl (cI, 12, .inl swf)), (vh, .inr (3, [.ref va])), (va, .inl (cI, 12, .inl fnf))]) rfl rfl (by decide) (by decide) (fun u H locs hw hP hD hS => ?_)
              replace hw := hw.symm
              subst hw
              have hP : va_P D vwCl [(qk, .inl (cI, 12, .inl fk)), (xh, .inr (4, [.ref ch, .ref bh, .ref lg, .int lgd_42, .ref sh, .ref vh])), (ch, .inr (0, [.ref ca, .int ccc, .int cac, .int cfc, .int clc])), (ca, .inl (cI, 10, .inl cf)), (bh, .inr (0, [.ref ba, .int bcc, .int bac, .int bfc, .int blc])), (ba, .inl (cI, 10, .inl bf_42)), (lg, .inl (cI, 12, .inl lgf_42)), (sh, .inr (2, [.ref sa, .int cnt, .int call])), (sa, .inl (cI, 12, .inl swf)), (vh, .inr (3, [.ref va])), (va, .inl (cI, 12, .inl fnf)), (qb, .inl (cI, 12, .inl (upd fb y_8.toNatClampNeg y_38))), (qg, .inl (cI, 3, .inl (upd fg 2 (fg 2 + 1)))), (ql, .inl (cI, 12, .inl (upd fl (fg 2).toNatClampNeg y_8)))] H := hP
              have hD : va_D A [(qk, .inl (cI, 12, .inl fk)), (xh, .inr (4, [.ref ch, .ref bh, .ref lg, .int lgd_42, .ref sh, .ref vh])), (ch, .inr (0, [.ref ca, .int ccc, .int cac, .int cfc, .int clc])), (ca, .inl (cI, 10, .inl cf)), (bh, .inr (0, [.ref ba, .int bcc, .int bac, .int bfc, .int blc])), (ba, .inl (cI, 10, .inl bf_42)), (lg, .inl (cI, 12, .inl lgf_42)), (sh, .inr (2, [.ref sa, .int cnt, .int call])), (sa, .inl (cI, 12, .inl swf)), (vh, .inr (3, [.ref va])), (va, .inl (cI, 12, .inl fnf)), (qb, .inl (cI, 12, .inl (upd fb y_8.toNatClampNeg y_38))), (qg, .inl (cI, 3, .inl (upd fg 2 (fg 2 + 1)))), (ql, .inl (cI, 12, .inl (upd fl (fg 2).toNatClampNeg y_8)))] := hD
              refine lv_iload hx hb dL_step_252 (lv_at hl 0 rfl) ?_
              refine lv_iload hx hb dL_step_254 (lv_at hl 1 rfl) ?_
              refine lv_if_eq (tgt := 268) hx hb dL_step_256 (by decide) (fun c_49 => ?_) (fun c_49 => ?_)
              · have h := h.1 c_49
                refine lv_bipush (v := (-8)) hx hb dL_step_268 (by decide) ?_
                refine lv_icmp_ne (tgt := 277) hx hb dL_step_270 (by decide) (fun c_50 => ?_) (fun c_50 => ?_)
                · have h := h.2 c_50
                  refine lv_iconst (v := 0) hx hb dL_step_277 (by decide) ?_
                  exact hret 0 (ccc, cac, cfc, clc, cf, bcc, bac, bfc, blc, bf_42, lgf_42, lgd_42, cnt, call, swf, fnf, upd fb y_8.toNatClampNeg y_38, fk, upd fg 2 (fg 2 + 1), upd fl (fg 2).toNatClampNeg y_8) _ _ _ _ _ _ (by decide) h (hP.sub [1, 2, 3, 4, 5, 6, 7, 8, 9, 10, 11, 0, 12, 13] rfl) (hD.sub [1, 2, 3, 4, 5, 6, 7, 8, 9, 10, 11, 0, 12, 13] (by decide) rfl) hS (Nat.le_of_ble_eq_true rfl) (Nat.le_of_ble_eq_true rfl) dL_step_278
                · have h := h.1 c_50
                  refine lv_iconst (v := 1) hx hb dL_step_273 (by decide) ?_
                  refine lv_goto (tgt := 278) hx hb dL_step_274 (by decide) ?_
                  exact hret 1 (ccc, cac, cfc, clc, cf, bcc, bac, bfc, blc, bf_42, lgf_42, lgd_42, cnt, call, swf, fnf, upd fb y_8.toNatClampNeg y_38, fk, upd fg 2 (fg 2 + 1), upd fl (fg 2).toNatClampNeg y_8) _ _ _ _ _ _ (by decide) h (hP.sub [1, 2, 3, 4, 5, 6, 7, 8, 9, 10, 11, 0, 12, 13] rfl) (hD.sub [1, 2, 3, 4, 5, 6, 7, 8, 9, 10, 11, 0, 12, 13] (by decide) rfl) hS (Nat.le_of_ble_eq_true rfl) (Nat.le_of_ble_eq_true rfl) dL_step_278
              · have h := h.2 c_49
                refine lv_aload_n hx hb dL_step_259 rfl (lv_at hl 4 rfl) ?_
                refine lv_iload hx hb dL_step_260 (lv_at hl 3 rfl) ?_
                obtain ⟨p_51, h⟩ := h
                have hPc := hP.sub (ws' := [(xh, .inr (4, [.ref ch, .ref bh, .ref lg, .int lgd_42, .ref sh, .ref vh])), (ch, .inr (0, [.ref ca, .int ccc, .int cac, .int cfc, .int clc])), (ca, .inl (cI, 10, .inl cf)), (bh, .inr (0, [.ref ba, .int bcc, .int bac, .int bfc, .int blc])), (ba, .inl (cI, 10, .inl bf_42)), (lg, .inl (cI, 12, .inl lgf_42)), (sh, .inr (2, [.ref sa, .int cnt, .int call])), (sa, .inl (cI, 12, .inl swf)), (vh, .inr (3, [.ref va])), (va, .inl (cI, 12, .inl fnf))]) [1, 2, 3, 4, 5, 6, 7, 8, 9, 10] rfl
                have hDc := hD.sub (ws' := [(xh, .inr (4, [.ref ch, .ref bh, .ref lg, .int lgd_42, .ref sh, .ref vh])), (ch, .inr (0, [.ref ca, .int ccc, .int cac, .int cfc, .int clc])), (ca, .inl (cI, 10, .inl cf)), (bh, .inr (0, [.ref ba, .int bcc, .int bac, .int bfc, .int blc])), (ba, .inl (cI, 10, .inl bf_42)), (lg, .inl (cI, 12, .inl lgf_42)), (sh, .inr (2, [.ref sa, .int cnt, .int call])), (sa, .inl (cI, 12, .inl swf)), (vh, .inr (3, [.ref va])), (va, .inl (cI, 12, .inl fnf))]) [1, 2, 3, 4, 5, 6, 7, 8, 9, 10] (by decide) rfl
                refine ff_callI (va_runV (As := [.int y_8]) (rest := [.int r_42]) ⟨hx, hb, hml, hown, hts⟩ (c_X4_sizeN l D cI xh ch ca bh ba lg sh sa vh va H.size lgd_42 ccc cac cfc clc cf bcc bac bfc blc bf_42 lgf_42 cnt call swf fnf y_8 p_51) (cwV 1 hts gL_step_X4_size rfl rfl rfl (by decide +kernel) ⟨Nat.le_of_ble_eq_true rfl, Nat.le_of_ble_eq_true rfl⟩) (ff_preV (q := (RX4, TX4, 6)) (ci := 4) (q0 := 0) hPc hK hDc hN rfl rfl) rfl rfl hl.1 rfl (lv_room (Nat.le_of_ble_eq_true rfl)) dL_step_262 ⟨Nat.le_of_ble_eq_true rfl, Nat.le_of_ble_eq_true rfl⟩) hP hD hS hA [1, 2, 3, 4, 5, 6, 7, 8, 9, 10] [0, 11, 12, 13] (wr := [(qk, .inl (cI, 12, .inl fk)), (qb, .inl (cI, 12, .inl (upd fb y_8.toNatClampNeg y_38))), (qg, .inl (cI, 3, .inl (upd fg 2 (fg 2 + 1)))), (ql, .inl (cI, 12, .inl (upd fl (fg 2).toNatClampNeg y_8)))]) rfl rfl (by decide) (by decide) (fun r u H locs hw hP hD hS => ?_)
                replace hw := hw.symm
                subst hw
                have hP : va_P D vwCl [(qk, .inl (cI, 12, .inl fk)), (qb, .inl (cI, 12, .inl (upd fb y_8.toNatClampNeg y_38))), (qg, .inl (cI, 3, .inl (upd fg 2 (fg 2 + 1)))), (ql, .inl (cI, 12, .inl (upd fl (fg 2).toNatClampNeg y_8))), (xh, .inr (4, [.ref ch, .ref bh, .ref lg, .int lgd_42, .ref sh, .ref vh])), (ch, .inr (0, [.ref ca, .int ccc, .int cac, .int cfc, .int clc])), (ca, .inl (cI, 10, .inl cf)), (bh, .inr (0, [.ref ba, .int bcc, .int bac, .int bfc, .int blc])), (ba, .inl (cI, 10, .inl bf_42)), (lg, .inl (cI, 12, .inl lgf_42)), (sh, .inr (2, [.ref sa, .int cnt, .int call])), (sa, .inl (cI, 12, .inl swf)), (vh, .inr (3, [.ref va])), (va, .inl (cI, 12, .inl fnf))] H := hP
                have hD : va_D A [(qk, .inl (cI, 12, .inl fk)), (qb, .inl (cI, 12, .inl (upd fb y_8.toNatClampNeg y_38))), (qg, .inl (cI, 3, .inl (upd fg 2 (fg 2 + 1)))), (ql, .inl (cI, 12, .inl (upd fl (fg 2).toNatClampNeg y_8))), (xh, .inr (4, [.ref ch, .ref bh, .ref lg, .int lgd_42, .ref sh, .ref vh])), (ch, .inr (0, [.ref ca, .int ccc, .int cac, .int cfc, .int clc])), (ca, .inl (cI, 10, .inl cf)), (bh, .inr (0, [.ref ba, .int bcc, .int bac, .int bfc, .int blc])), (ba, .inl (cI, 10, .inl bf_42)), (lg, .inl (cI, 12, .inl lgf_42)), (sh, .inr (2, [.ref sa, .int cnt, .int call])), (sa, .inl (cI, 12, .inl swf)), (vh, .inr (3, [.ref va])), (va, .inl (cI, 12, .inl fnf))] := hD
                refine lv_goto (tgt := 270) hx hb dL_step_265 (by decide) ?_
                refine lv_icmp_ne (tgt := 277) hx hb dL_step_270 (by decide) (fun c_52 => ?_) (fun c_52 => ?_)
                · have h := h.2 c_52
                  refine lv_iconst (v := 0) hx hb dL_step_277 (by decide) ?_
                  exact hret 0 (ccc, cac, cfc, clc, cf, bcc, bac, bfc, blc, bf_42, lgf_42, lgd_42, cnt, call, swf, fnf, upd fb y_8.toNatClampNeg y_38, fk, upd fg 2 (fg 2 + 1), upd fl (fg 2).toNatClampNeg y_8) _ _ _ _ _ _ (by decide) h (hP.sub [4, 5, 6, 7, 8, 9, 10, 11, 12, 13, 1, 0, 2, 3] rfl) (hD.sub [4, 5, 6, 7, 8, 9, 10, 11, 12, 13, 1, 0, 2, 3] (by decide) rfl) hS (Nat.le_of_ble_eq_true rfl) (Nat.le_of_ble_eq_true rfl) dL_step_278
                · have h := h.1 c_52
                  refine lv_iconst (v := 1) hx hb dL_step_273 (by decide) ?_
                  refine lv_goto (tgt := 278) hx hb dL_step_274 (by decide) ?_
                  exact hret 1 (ccc, cac, cfc, clc, cf, bcc, bac, bfc, blc, bf_42, lgf_42, lgd_42, cnt, call, swf, fnf, upd fb y_8.toNatClampNeg y_38, fk, upd fg 2 (fg 2 + 1), upd fl (fg 2).toNatClampNeg y_8) _ _ _ _ _ _ (by decide) h (hP.sub [4, 5, 6, 7, 8, 9, 10, 11, 12, 13, 1, 0, 2, 3] rfl) (hD.sub [4, 5, 6, 7, 8, 9, 10, 11, 12, 13, 1, 0, 2, 3] (by decide) rfl) hS (Nat.le_of_ble_eq_true rfl) (Nat.le_of_ble_eq_true rfl) dL_step_278
      · have h := h.1 c_11
        refine lv_iload_n hx hb dL_step_156 rfl (lv_at hl 4 rfl) ?_
        refine lv_iconst (v := 3) hx hb dL_step_157 (by decide) ?_
        refine lv_irem hx hb dL_step_158 (by decide) ?_
        refine lv_if_gt (tgt := 176) hx hb dL_step_159 (by decide) (fun c_53 => ?_) (fun c_53 => ?_)
        · have h := h.1 c_53
          refine lv_iconst (v := 1) hx hb dL_step_176 (by decide) ?_
          refine lv_goto (tgt := 181) hx hb dL_step_177 (by decide) ?_
          exact hret 1 (ccc, cac, cfc, clc, cf, bcc, bac, bfc, blc, bf, lgf, lgd, cnt, call, swf, fnf, fb, fk, fg, fl) _ _ _ _ _ _ (by decide) h (hP.sub [0, 1, 2, 3, 4, 5, 6, 7, 8, 9, 10, 11, 12, 13] rfl) (hD.sub [0, 1, 2, 3, 4, 5, 6, 7, 8, 9, 10, 11, 12, 13] (by decide) rfl) hS (Nat.le_of_ble_eq_true rfl) (Nat.le_of_ble_eq_true rfl) dL_step_181
        · have h := h.2 c_53
          refine lv_aload_n hx hb dL_step_162 rfl (lv_at hl 1 rfl) ?_
          refine lv_iload_n hx hb dL_step_163 rfl (lv_at hl 3 rfl) ?_
          refine lv_aload hx hb dL_step_164 (lv_at hl 5 rfl) ?_
          refine lv_aload hx hb dL_step_166 (lv_at hl 6 rfl) ?_
          refine lv_aload hx hb dL_step_168 (lv_at hl 7 rfl) ?_
          obtain ⟨p_54, h⟩ := h
          have hPc := hP.sub (ws' := [(xh, .inr (4, [.ref ch, .ref bh, .ref lg, .int lgd, .ref sh, .ref vh])), (ch, .inr (0, [.ref ca, .int ccc, .int cac, .int cfc, .int clc])), (ca, .inl (cI, 10, .inl cf)), (bh, .inr (0, [.ref ba, .int bcc, .int bac, .int bfc, .int blc])), (ba, .inl (cI, 10, .inl bf)), (lg, .inl (cI, 12, .inl lgf)), (sh, .inr (2, [.ref sa, .int cnt, .int call])), (sa, .inl (cI, 12, .inl swf)), (vh, .inr (3, [.ref va])), (va, .inl (cI, 12, .inl fnf)), (qb, .inl (cI, 12, .inl fb)), (qk, .inl (cI, 12, .inl fk)), (qg, .inl (cI, 3, .inl fg))]) [0, 1, 2, 3, 4, 5, 6, 7, 8, 9, 10, 11, 12] rfl
          have hDc := hD.sub (ws' := [(xh, .inr (4, [.ref ch, .ref bh, .ref lg, .int lgd, .ref sh, .ref vh])), (ch, .inr (0, [.ref ca, .int ccc, .int cac, .int cfc, .int clc])), (ca, .inl (cI, 10, .inl cf)), (bh, .inr (0, [.ref ba, .int bcc, .int bac, .int bfc, .int blc])), (ba, .inl (cI, 10, .inl bf)), (lg, .inl (cI, 12, .inl lgf)), (sh, .inr (2, [.ref sa, .int cnt, .int call])), (sa, .inl (cI, 12, .inl swf)), (vh, .inr (3, [.ref va])), (va, .inl (cI, 12, .inl fnf)), (qb, .inl (cI, 12, .inl fb)), (qk, .inl (cI, 12, .inl fk)), (qg, .inl (cI, 3, .inl fg))]) [0, 1, 2, 3, 4, 5, 6, 7, 8, 9, 10, 11, 12] (by decide) rfl
          refine ff_callI (va_runS (As := [.ref xh, .int p2, .ref qb, .ref qk, .ref qg]) (rest := []) ⟨hx, hb, hml, hown, hts⟩ (c_L_makes l D cI xh ch ca bh ba lg sh sa vh va qb qk qg H.size lgd ccc cac cfc clc cf bcc bac bfc blc bf lgf cnt call swf fnf fb fk fg p2 p_54) (va_cwS 5 hts gL_step_L_makes rfl rfl rfl (by decide +kernel) ⟨Nat.le_of_ble_eq_true rfl, Nat.le_of_ble_eq_true rfl⟩) (ff_preS hPc hK hDc hN) rfl rfl hl.1 rfl (lv_room (Nat.le_of_ble_eq_true rfl)) dL_step_170 ⟨Nat.le_of_ble_eq_true rfl, Nat.le_of_ble_eq_true rfl⟩) hP hD hS hA [0, 1, 2, 3, 4, 5, 6, 7, 8, 9, 10, 11, 12] [13] (wr := [(ql, .inl (cI, 12, .inl fl))]) rfl rfl (by decide) (by decide) (fun r u H locs hw hP hD hS => ?_)
          obtain ⟨cf_55, bcc_55, bac_55, bfc_55, blc_55, bf_55, lgd_55, fnf_55, fb_55, fk_55, fg_55⟩ := u
          have hw : r = 1 ∧ (∀ z, PI lgd_55 ccc cac cfc clc cf_55 bcc_55 bac_55 bfc_55 blc_55 bf_55 lgf fb_55 fk_55 fg_55 z) := hw
          obtain ⟨e0_w, hrel⟩ := hw
          replace e0_w := e0_w.symm
          subst e0_w
          have h := h cf_55 bcc_55 bac_55 bfc_55 blc_55 bf_55 lgd_55 fnf_55 fb_55 fk_55 fg_55
          have h := h hrel
          have hP : va_P D vwCl [(ql, .inl (cI, 12, .inl fl)), (xh, .inr (4, [.ref ch, .ref bh, .ref lg, .int lgd_55, .ref sh, .ref vh])), (ch, .inr (0, [.ref ca, .int ccc, .int cac, .int cfc, .int clc])), (ca, .inl (cI, 10, .inl cf_55)), (bh, .inr (0, [.ref ba, .int bcc_55, .int bac_55, .int bfc_55, .int blc_55])), (ba, .inl (cI, 10, .inl bf_55)), (lg, .inl (cI, 12, .inl lgf)), (sh, .inr (2, [.ref sa, .int cnt, .int call])), (sa, .inl (cI, 12, .inl swf)), (vh, .inr (3, [.ref va])), (va, .inl (cI, 12, .inl fnf_55)), (qb, .inl (cI, 12, .inl fb_55)), (qk, .inl (cI, 12, .inl fk_55)), (qg, .inl (cI, 3, .inl fg_55))] H := hP
          have hD : va_D A [(ql, .inl (cI, 12, .inl fl)), (xh, .inr (4, [.ref ch, .ref bh, .ref lg, .int lgd_55, .ref sh, .ref vh])), (ch, .inr (0, [.ref ca, .int ccc, .int cac, .int cfc, .int clc])), (ca, .inl (cI, 10, .inl cf_55)), (bh, .inr (0, [.ref ba, .int bcc_55, .int bac_55, .int bfc_55, .int blc_55])), (ba, .inl (cI, 10, .inl bf_55)), (lg, .inl (cI, 12, .inl lgf)), (sh, .inr (2, [.ref sa, .int cnt, .int call])), (sa, .inl (cI, 12, .inl swf)), (vh, .inr (3, [.ref va])), (va, .inl (cI, 12, .inl fnf_55)), (qb, .inl (cI, 12, .inl fb_55)), (qk, .inl (cI, 12, .inl fk_55)), (qg, .inl (cI, 3, .inl fg_55))] := hD
          refine lv_if_eq (tgt := 180) hx hb dL_step_173 (by decide) (fun c_56 => absurd c_56 (by decide)) (fun _ => ?_)
          refine lv_iconst (v := 1) hx hb dL_step_176 (by decide) ?_
          refine lv_goto (tgt := 181) hx hb dL_step_177 (by decide) ?_
          exact hret 1 (ccc, cac, cfc, clc, cf_55, bcc_55, bac_55, bfc_55, blc_55, bf_55, lgf, lgd_55, cnt, call, swf, fnf_55, fb_55, fk_55, fg_55, fl) _ _ _ _ _ _ (by decide) h (hP.sub [1, 2, 3, 4, 5, 6, 7, 8, 9, 10, 11, 12, 13, 0] rfl) (hD.sub [1, 2, 3, 4, 5, 6, 7, 8, 9, 10, 11, 12, 13, 0] (by decide) rfl) hS (Nat.le_of_ble_eq_true rfl) (Nat.le_of_ble_eq_true rfl) dL_step_181
    · have h := h.2 c_10
      refine lv_aload_n hx hb dL_step_119 rfl (lv_at hl 1 rfl) ?_
      refine lv_iload hx hb dL_step_120 (lv_at hl 0 rfl) ?_
      refine lv_iload_n hx hb dL_step_122 rfl (lv_at hl 4 rfl) ?_
      refine lv_iconst (v := 4) hx hb dL_step_123 (by decide) ?_
      refine lv_irem hx hb dL_step_124 (by decide) ?_
      refine lv_if_ne (tgt := 132) hx hb dL_step_125 (by decide) (fun c_57 => ?_) (fun c_57 => ?_)
      · have h := h.2 c_57
        refine lv_iconst (v := 1) hx hb dL_step_132 (by decide) ?_
        refine lv_iload_n hx hb dL_step_133 rfl (lv_at hl 4 rfl) ?_
        refine lv_iconst (v := 4) hx hb dL_step_134 (by decide) ?_
        refine lv_idiv hx hb dL_step_135 (by decide) ?_
        refine lv_iconst (v := 5) hx hb dL_step_136 (by decide) ?_
        refine lv_irem hx hb dL_step_137 (by decide) ?_
        refine lv_iadd hx hb dL_step_138 ?_
        refine lv_aload hx hb dL_step_139 (lv_at hl 5 rfl) ?_
        refine lv_aload hx hb dL_step_141 (lv_at hl 6 rfl) ?_
        refine lv_aload hx hb dL_step_143 (lv_at hl 7 rfl) ?_
        refine lv_aload hx hb dL_step_145 (lv_at hl 8 rfl) ?_
        obtain ⟨p_58, h⟩ := h
        have hPc := hP.sub (ws' := [(xh, .inr (4, [.ref ch, .ref bh, .ref lg, .int lgd, .ref sh, .ref vh])), (ch, .inr (0, [.ref ca, .int ccc, .int cac, .int cfc, .int clc])), (ca, .inl (cI, 10, .inl cf)), (bh, .inr (0, [.ref ba, .int bcc, .int bac, .int bfc, .int blc])), (ba, .inl (cI, 10, .inl bf)), (lg, .inl (cI, 12, .inl lgf)), (sh, .inr (2, [.ref sa, .int cnt, .int call])), (sa, .inl (cI, 12, .inl swf)), (vh, .inr (3, [.ref va])), (va, .inl (cI, 12, .inl fnf)), (qb, .inl (cI, 12, .inl fb)), (qk, .inl (cI, 12, .inl fk)), (qg, .inl (cI, 3, .inl fg)), (ql, .inl (cI, 12, .inl fl))]) [0, 1, 2, 3, 4, 5, 6, 7, 8, 9, 10, 11, 12, 13] rfl
        have hDc := hD.sub (ws' := [(xh, .inr (4, [.ref ch, .ref bh, .ref lg, .int lgd, .ref sh, .ref vh])), (ch, .inr (0, [.ref ca, .int ccc, .int cac, .int cfc, .int clc])), (ca, .inl (cI, 10, .inl cf)), (bh, .inr (0, [.ref ba, .int bcc, .int bac, .int bfc, .int blc])), (ba, .inl (cI, 10, .inl bf)), (lg, .inl (cI, 12, .inl lgf)), (sh, .inr (2, [.ref sa, .int cnt, .int call])), (sa, .inl (cI, 12, .inl swf)), (vh, .inr (3, [.ref va])), (va, .inl (cI, 12, .inl fnf)), (qb, .inl (cI, 12, .inl fb)), (qk, .inl (cI, 12, .inl fk)), (qg, .inl (cI, 3, .inl fg)), (ql, .inl (cI, 12, .inl fl))]) [0, 1, 2, 3, 4, 5, 6, 7, 8, 9, 10, 11, 12, 13] (by decide) rfl
        refine ff_callI (va_runS (As := [.ref xh, .int y_8, .int (1 + ((p3 / 4) - (p3 / 4) / 5 * 5)), .ref qb, .ref qk, .ref qg, .ref ql]) (rest := []) ⟨hx, hb, hml, hown, hts⟩ (c_L_sets l hst D cI xh ch ca bh ba lg sh sa vh va qb qk qg ql H.size lgd ccc cac cfc clc cf bcc bac bfc blc bf lgf cnt call swf fnf fb fk fg fl y_8 (1 + ((p3 / 4) - (p3 / 4) / 5 * 5)) p_58) (va_cwS 7 hts gL_step_L_sets rfl rfl rfl (by decide +kernel) ⟨Nat.le_of_ble_eq_true rfl, Nat.le_of_ble_eq_true rfl⟩) (ffx_preS hPc hK hDc hN hZ hS (va_free hD hS hA [0, 1, 2, 3, 4, 5, 6, 7, 8, 9, 10, 11, 12, 13] rfl)) rfl rfl hl.1 rfl (lv_room (Nat.le_of_ble_eq_true rfl)) dL_step_147 ⟨Nat.le_of_ble_eq_true rfl, Nat.le_of_ble_eq_true rfl⟩) hP hD hS hA [0, 1, 2, 3, 4, 5, 6, 7, 8, 9, 10, 11, 12, 13] [] (wr := []) rfl rfl (by decide) (by decide) (fun r u H locs hw hP hD hS => ?_)
        obtain ⟨bcc_59, bac_59, bfc_59, blc_59, bf_59, cf_59, lgd_59, fb_59, fk_59, fg_59⟩ := u
        have hw : r = 1 ∧ (PI lgd_59 ccc cac cfc clc cf_59 bcc_59 bac_59 bfc_59 blc_59 bf_59 lgf fb_59 fk_59 fg_59 fl) := hw
        obtain ⟨e0_w, hrel⟩ := hw
        replace e0_w := e0_w.symm
        subst e0_w
        have h := h bcc_59 bac_59 bfc_59 blc_59 bf_59 cf_59 lgd_59 fb_59 fk_59 fg_59
        have h := h hrel
        have hP : va_P D vwCl [(xh, .inr (4, [.ref ch, .ref bh, .ref lg, .int lgd_59, .ref sh, .ref vh])), (ch, .inr (0, [.ref ca, .int ccc, .int cac, .int cfc, .int clc])), (ca, .inl (cI, 10, .inl cf_59)), (bh, .inr (0, [.ref ba, .int bcc_59, .int bac_59, .int bfc_59, .int blc_59])), (ba, .inl (cI, 10, .inl bf_59)), (lg, .inl (cI, 12, .inl lgf)), (sh, .inr (2, [.ref sa, .int cnt, .int call])), (sa, .inl (cI, 12, .inl swf)), (vh, .inr (3, [.ref va])), (va, .inl (cI, 12, .inl fnf)), (qb, .inl (cI, 12, .inl fb_59)), (qk, .inl (cI, 12, .inl fk_59)), (qg, .inl (cI, 3, .inl fg_59)), (ql, .inl (cI, 12, .inl fl))] H := hP
        have hD : va_D A [(xh, .inr (4, [.ref ch, .ref bh, .ref lg, .int lgd_59, .ref sh, .ref vh])), (ch, .inr (0, [.ref ca, .int ccc, .int cac, .int cfc, .int clc])), (ca, .inl (cI, 10, .inl cf_59)), (bh, .inr (0, [.ref ba, .int bcc_59, .int bac_59, .int bfc_59, .int blc_59])), (ba, .inl (cI, 10, .inl bf_59)), (lg, .inl (cI, 12, .inl lgf)), (sh, .inr (2, [.ref sa, .int cnt, .int call])), (sa, .inl (cI, 12, .inl swf)), (vh, .inr (3, [.ref va])), (va, .inl (cI, 12, .inl fnf)), (qb, .inl (cI, 12, .inl fb_59)), (qk, .inl (cI, 12, .inl fk_59)), (qg, .inl (cI, 3, .inl fg_59)), (ql, .inl (cI, 12, .inl fl))] := hD
        exact hret 1 (ccc, cac, cfc, clc, cf_59, bcc_59, bac_59, bfc_59, blc_59, bf_59, lgf, lgd_59, cnt, call, swf, fnf, fb_59, fk_59, fg_59, fl) _ _ _ _ _ _ (by decide) h (hP.sub [0, 1, 2, 3, 4, 5, 6, 7, 8, 9, 10, 11, 12, 13] rfl) (hD.sub [0, 1, 2, 3, 4, 5, 6, 7, 8, 9, 10, 11, 12, 13] (by decide) rfl) hS (Nat.le_of_ble_eq_true rfl) (Nat.le_of_ble_eq_true rfl) dL_step_150
      · have h := h.1 c_57
        refine lv_iconst (v := 0) hx hb dL_step_128 (by decide) ?_
        refine lv_goto (tgt := 139) hx hb dL_step_129 (by decide) ?_
        refine lv_aload hx hb dL_step_139 (lv_at hl 5 rfl) ?_
        refine lv_aload hx hb dL_step_141 (lv_at hl 6 rfl) ?_
        refine lv_aload hx hb dL_step_143 (lv_at hl 7 rfl) ?_
        refine lv_aload hx hb dL_step_145 (lv_at hl 8 rfl) ?_
        obtain ⟨p_60, h⟩ := h
        have hPc := hP.sub (ws' := [(xh, .inr (4, [.ref ch, .ref bh, .ref lg, .int lgd, .ref sh, .ref vh])), (ch, .inr (0, [.ref ca, .int ccc, .int cac, .int cfc, .int clc])), (ca, .inl (cI, 10, .inl cf)), (bh, .inr (0, [.ref ba, .int bcc, .int bac, .int bfc, .int blc])), (ba, .inl (cI, 10, .inl bf)), (lg, .inl (cI, 12, .inl lgf)), (sh, .inr (2, [.ref sa, .int cnt, .int call])), (sa, .inl (cI, 12, .inl swf)), (vh, .inr (3, [.ref va])), (va, .inl (cI, 12, .inl fnf)), (qb, .inl (cI, 12, .inl fb)), (qk, .inl (cI, 12, .inl fk)), (qg, .inl (cI, 3, .inl fg)), (ql, .inl (cI, 12, .inl fl))]) [0, 1, 2, 3, 4, 5, 6, 7, 8, 9, 10, 11, 12, 13] rfl
        have hDc := hD.sub (ws' := [(xh, .inr (4, [.ref ch, .ref bh, .ref lg, .int lgd, .ref sh, .ref vh])), (ch, .inr (0, [.ref ca, .int ccc, .int cac, .int cfc, .int clc])), (ca, .inl (cI, 10, .inl cf)), (bh, .inr (0, [.ref ba, .int bcc, .int bac, .int bfc, .int blc])), (ba, .inl (cI, 10, .inl bf)), (lg, .inl (cI, 12, .inl lgf)), (sh, .inr (2, [.ref sa, .int cnt, .int call])), (sa, .inl (cI, 12, .inl swf)), (vh, .inr (3, [.ref va])), (va, .inl (cI, 12, .inl fnf)), (qb, .inl (cI, 12, .inl fb)), (qk, .inl (cI, 12, .inl fk)), (qg, .inl (cI, 3, .inl fg)), (ql, .inl (cI, 12, .inl fl))]) [0, 1, 2, 3, 4, 5, 6, 7, 8, 9, 10, 11, 12, 13] (by decide) rfl
        refine ff_callI (va_runS (As := [.ref xh, .int y_8, .int 0, .ref qb, .ref qk, .ref qg, .ref ql]) (rest := []) ⟨hx, hb, hml, hown, hts⟩ (c_L_sets l hst D cI xh ch ca bh ba lg sh sa vh va qb qk qg ql H.size lgd ccc cac cfc clc cf bcc bac bfc blc bf lgf cnt call swf fnf fb fk fg fl y_8 0 p_60) (va_cwS 7 hts gL_step_L_sets rfl rfl rfl (by decide +kernel) ⟨Nat.le_of_ble_eq_true rfl, Nat.le_of_ble_eq_true rfl⟩) (ffx_preS hPc hK hDc hN hZ hS (va_free hD hS hA [0, 1, 2, 3, 4, 5, 6, 7, 8, 9, 10, 11, 12, 13] rfl)) rfl rfl hl.1 rfl (lv_room (Nat.le_of_ble_eq_true rfl)) dL_step_147 ⟨Nat.le_of_ble_eq_true rfl, Nat.le_of_ble_eq_true rfl⟩) hP hD hS hA [0, 1, 2, 3, 4, 5, 6, 7, 8, 9, 10, 11, 12, 13] [] (wr := []) rfl rfl (by decide) (by decide) (fun r u H locs hw hP hD hS => ?_)
        obtain ⟨bcc_61, bac_61, bfc_61, blc_61, bf_61, cf_61, lgd_61, fb_61, fk_61, fg_61⟩ := u
        have hw : r = 1 ∧ (PI lgd_61 ccc cac cfc clc cf_61 bcc_61 bac_61 bfc_61 blc_61 bf_61 lgf fb_61 fk_61 fg_61 fl) := hw
        obtain ⟨e0_w, hrel⟩ := hw
        replace e0_w := e0_w.symm
        subst e0_w
        have h := h bcc_61 bac_61 bfc_61 blc_61 bf_61 cf_61 lgd_61 fb_61 fk_61 fg_61
        have h := h hrel
        have hP : va_P D vwCl [(xh, .inr (4, [.ref ch, .ref bh, .ref lg, .int lgd_61, .ref sh, .ref vh])), (ch, .inr (0, [.ref ca, .int ccc, .int cac, .int cfc, .int clc])), (ca, .inl (cI, 10, .inl cf_61)), (bh, .inr (0, [.ref ba, .int bcc_61, .int bac_61, .int bfc_61, .int blc_61])), (ba, .inl (cI, 10, .inl bf_61)), (lg, .inl (cI, 12, .inl lgf)), (sh, .inr (2, [.ref sa, .int cnt, .int call])), (sa, .inl (cI, 12, .inl swf)), (vh, .inr (3, [.ref va])), (va, .inl (cI, 12, .inl fnf)), (qb, .inl (cI, 12, .inl fb_61)), (qk, .inl (cI, 12, .inl fk_61)), (qg, .inl (cI, 3, .inl fg_61)), (ql, .inl (cI, 12, .inl fl))] H := hP
        have hD : va_D A [(xh, .inr (4, [.ref ch, .ref bh, .ref lg, .int lgd_61, .ref sh, .ref vh])), (ch, .inr (0, [.ref ca, .int ccc, .int cac, .int cfc, .int clc])), (ca, .inl (cI, 10, .inl cf_61)), (bh, .inr (0, [.ref ba, .int bcc_61, .int bac_61, .int bfc_61, .int blc_61])), (ba, .inl (cI, 10, .inl bf_61)), (lg, .inl (cI, 12, .inl lgf)), (sh, .inr (2, [.ref sa, .int cnt, .int call])), (sa, .inl (cI, 12, .inl swf)), (vh, .inr (3, [.ref va])), (va, .inl (cI, 12, .inl fnf)), (qb, .inl (cI, 12, .inl fb_61)), (qk, .inl (cI, 12, .inl fk_61)), (qg, .inl (cI, 3, .inl fg_61)), (ql, .inl (cI, 12, .inl fl))] := hD
        exact hret 1 (ccc, cac, cfc, clc, cf_61, bcc_61, bac_61, bfc_61, blc_61, bf_61, lgf, lgd_61, cnt, call, swf, fnf, fb_61, fk_61, fg_61, fl) _ _ _ _ _ _ (by decide) h (hP.sub [0, 1, 2, 3, 4, 5, 6, 7, 8, 9, 10, 11, 12, 13] rfl) (hD.sub [0, 1, 2, 3, 4, 5, 6, 7, 8, 9, 10, 11, 12, 13] (by decide) rfl) hS (Nat.le_of_ble_eq_true rfl) (Nat.le_of_ble_eq_true rfl) dL_step_150
  · have h := h.1 c_9
    refine lv_aload hx hb dL_step_17 (lv_at hl 7 rfl) ?_
    refine lv_iconst (v := 0) hx hb dL_step_19 (by decide) ?_
    refine lv_iconst (v := 2) hx hb dL_step_20 (by decide) ?_
    refine lv_iload_n hx hb dL_step_21 rfl (lv_at hl 3 rfl) ?_
    refine lv_iconst (v := 3) hx hb dL_step_22 (by decide) ?_
    refine lv_irem hx hb dL_step_23 (by decide) ?_
    refine lv_iadd hx hb dL_step_24 ?_
    refine ff_iastK hx hb hK hP hD hS 12 0 rfl rfl (vp_in_nI (n := 0) (N := 3) (by decide) (by decide)) (k := 0) rfl dL_step_25 (fun H locs hP hD hS => ?_)
    have hP : va_P D vwCl [(xh, .inr (4, [.ref ch, .ref bh, .ref lg, .int lgd, .ref sh, .ref vh])), (ch, .inr (0, [.ref ca, .int ccc, .int cac, .int cfc, .int clc])), (ca, .inl (cI, 10, .inl cf)), (bh, .inr (0, [.ref ba, .int bcc, .int bac, .int bfc, .int blc])), (ba, .inl (cI, 10, .inl bf)), (lg, .inl (cI, 12, .inl lgf)), (sh, .inr (2, [.ref sa, .int cnt, .int call])), (sa, .inl (cI, 12, .inl swf)), (vh, .inr (3, [.ref va])), (va, .inl (cI, 12, .inl fnf)), (qb, .inl (cI, 12, .inl fb)), (qk, .inl (cI, 12, .inl fk)), (qg, .inl (cI, 3, .inl (upd fg 0 (2 + (p2 - p2 / 3 * 3))))), (ql, .inl (cI, 12, .inl fl))] H := hP
    have hD : va_D A [(xh, .inr (4, [.ref ch, .ref bh, .ref lg, .int lgd, .ref sh, .ref vh])), (ch, .inr (0, [.ref ca, .int ccc, .int cac, .int cfc, .int clc])), (ca, .inl (cI, 10, .inl cf)), (bh, .inr (0, [.ref ba, .int bcc, .int bac, .int bfc, .int blc])), (ba, .inl (cI, 10, .inl bf)), (lg, .inl (cI, 12, .inl lgf)), (sh, .inr (2, [.ref sa, .int cnt, .int call])), (sa, .inl (cI, 12, .inl swf)), (vh, .inr (3, [.ref va])), (va, .inl (cI, 12, .inl fnf)), (qb, .inl (cI, 12, .inl fb)), (qk, .inl (cI, 12, .inl fk)), (qg, .inl (cI, 3, .inl (upd fg 0 (2 + (p2 - p2 / 3 * 3))))), (ql, .inl (cI, 12, .inl fl))] := hD
    refine lv_aload hx hb dL_step_26 (lv_at hl 7 rfl) ?_
    refine lv_iconst (v := 1) hx hb dL_step_28 (by decide) ?_
    refine lv_aload hx hb dL_step_29 (lv_at hl 7 rfl) ?_
    refine lv_iconst (v := 0) hx hb dL_step_31 (by decide) ?_
    refine ff_ialdK hx hb hK hP 12 0 rfl rfl (vp_in_nI (n := 0) (N := 3) (by decide) (by decide)) (k := 0) rfl dL_step_32 ?_
    refine lv_iconst (v := 4) hx hb dL_step_33 (by decide) ?_
    refine lv_icmp_ne (tgt := 45) hx hb dL_step_34 (by decide) (fun c_62 => ?_) (fun c_62 => ?_)
    · have h := h.2 c_62
      refine lv_iconst (v := 2) hx hb dL_step_45 (by decide) ?_
      refine lv_iload_n hx hb dL_step_46 rfl (lv_at hl 4 rfl) ?_
      refine lv_iconst (v := 3) hx hb dL_step_47 (by decide) ?_
      refine lv_irem hx hb dL_step_48 (by decide) ?_
      refine lv_iadd hx hb dL_step_49 ?_
      refine ff_iastK hx hb hK hP hD hS 12 0 rfl rfl (vp_in_nI (n := 1) (N := 3) (by decide) (by decide)) (k := 1) rfl dL_step_50 (fun H locs hP hD hS => ?_)
      have hP : va_P D vwCl [(xh, .inr (4, [.ref ch, .ref bh, .ref lg, .int lgd, .ref sh, .ref vh])), (ch, .inr (0, [.ref ca, .int ccc, .int cac, .int cfc, .int clc])), (ca, .inl (cI, 10, .inl cf)), (bh, .inr (0, [.ref ba, .int bcc, .int bac, .int bfc, .int blc])), (ba, .inl (cI, 10, .inl bf)), (lg, .inl (cI, 12, .inl lgf)), (sh, .inr (2, [.ref sa, .int cnt, .int call])), (sa, .inl (cI, 12, .inl swf)), (vh, .inr (3, [.ref va])), (va, .inl (cI, 12, .inl fnf)), (qb, .inl (cI, 12, .inl fb)), (qk, .inl (cI, 12, .inl fk)), (qg, .inl (cI, 3, .inl (upd (upd fg 0 (2 + (p2 - p2 / 3 * 3))) 1 (2 + (p3 - p3 / 3 * 3))))), (ql, .inl (cI, 12, .inl fl))] H := hP
      have hD : va_D A [(xh, .inr (4, [.ref ch, .ref bh, .ref lg, .int lgd, .ref sh, .ref vh])), (ch, .inr (0, [.ref ca, .int ccc, .int cac, .int cfc, .int clc])), (ca, .inl (cI, 10, .inl cf)), (bh, .inr (0, [.ref ba, .int bcc, .int bac, .int bfc, .int blc])), (ba, .inl (cI, 10, .inl bf)), (lg, .inl (cI, 12, .inl lgf)), (sh, .inr (2, [.ref sa, .int cnt, .int call])), (sa, .inl (cI, 12, .inl swf)), (vh, .inr (3, [.ref va])), (va, .inl (cI, 12, .inl fnf)), (qb, .inl (cI, 12, .inl fb)), (qk, .inl (cI, 12, .inl fk)), (qg, .inl (cI, 3, .inl (upd (upd fg 0 (2 + (p2 - p2 / 3 * 3))) 1 (2 + (p3 - p3 / 3 * 3))))), (ql, .inl (cI, 12, .inl fl))] := hD
      refine lv_aload hx hb dL_step_51 (lv_at hl 7 rfl) ?_
      refine lv_iconst (v := 2) hx hb dL_step_53 (by decide) ?_
      refine lv_iconst (v := 0) hx hb dL_step_54 (by decide) ?_
      refine ff_iastK hx hb hK hP hD hS 12 0 rfl rfl (vp_in_nI (n := 2) (N := 3) (by decide) (by decide)) (k := 2) rfl dL_step_55 (fun H locs hP hD hS => ?_)
      have hP : va_P D vwCl [(xh, .inr (4, [.ref ch, .ref bh, .ref lg, .int lgd, .ref sh, .ref vh])), (ch, .inr (0, [.ref ca, .int ccc, .int cac, .int cfc, .int clc])), (ca, .inl (cI, 10, .inl cf)), (bh, .inr (0, [.ref ba, .int bcc, .int bac, .int bfc, .int blc])), (ba, .inl (cI, 10, .inl bf)), (lg, .inl (cI, 12, .inl lgf)), (sh, .inr (2, [.ref sa, .int cnt, .int call])), (sa, .inl (cI, 12, .inl swf)), (vh, .inr (3, [.ref va])), (va, .inl (cI, 12, .inl fnf)), (qb, .inl (cI, 12, .inl fb)), (qk, .inl (cI, 12, .inl fk)), (qg, .inl (cI, 3, .inl (upd (upd (upd fg 0 (2 + (p2 - p2 / 3 * 3))) 1 (2 + (p3 - p3 / 3 * 3))) 2 0))), (ql, .inl (cI, 12, .inl fl))] H := hP
      have hD : va_D A [(xh, .inr (4, [.ref ch, .ref bh, .ref lg, .int lgd, .ref sh, .ref vh])), (ch, .inr (0, [.ref ca, .int ccc, .int cac, .int cfc, .int clc])), (ca, .inl (cI, 10, .inl cf)), (bh, .inr (0, [.ref ba, .int bcc, .int bac, .int bfc, .int blc])), (ba, .inl (cI, 10, .inl bf)), (lg, .inl (cI, 12, .inl lgf)), (sh, .inr (2, [.ref sa, .int cnt, .int call])), (sa, .inl (cI, 12, .inl swf)), (vh, .inr (3, [.ref va])), (va, .inl (cI, 12, .inl fnf)), (qb, .inl (cI, 12, .inl fb)), (qk, .inl (cI, 12, .inl fk)), (qg, .inl (cI, 3, .inl (upd (upd (upd fg 0 (2 + (p2 - p2 / 3 * 3))) 1 (2 + (p3 - p3 / 3 * 3))) 2 0))), (ql, .inl (cI, 12, .inl fl))] := hD
      refine lv_iconst (v := 0) hx hb dL_step_56 (by decide) ?_
      refine lv_istore (lv' := [(9, .int 0), (8, .int y_8), (0, .ref xh), (1, .int p1), (2, .int p2), (3, .int p3), (4, .ref qb), (5, .ref qk), (6, .ref qg), (7, .ref ql)]) hx hb dL_step_57 hl (by decide) rfl (fun ls hl => ?_)
      exact L59 _ _ _ _ _ _ _ _ _ _ _ _ _ _ _ _ _ _ _ _ _ _ _ _ _ _ h (Nat.lt_succ_self _) (hP.sub [0, 1, 2, 3, 4, 5, 6, 7, 8, 9, 10, 11, 12, 13] rfl) (hD.sub [0, 1, 2, 3, 4, 5, 6, 7, 8, 9, 10, 11, 12, 13] (by decide) rfl) hS (lv_sub hl [2, 3, 4, 5, 6, 7, 8, 9, 1, 0] rfl)
    · have h := h.1 c_62
      refine lv_iconst (v := 2) hx hb dL_step_37 (by decide) ?_
      refine lv_iload_n hx hb dL_step_38 rfl (lv_at hl 4 rfl) ?_
      refine lv_iconst (v := 2) hx hb dL_step_39 (by decide) ?_
      refine lv_irem hx hb dL_step_40 (by decide) ?_
      refine lv_iadd hx hb dL_step_41 ?_
      refine lv_goto (tgt := 50) hx hb dL_step_42 (by decide) ?_
      refine ff_iastK hx hb hK hP hD hS 12 0 rfl rfl (vp_in_nI (n := 1) (N := 3) (by decide) (by decide)) (k := 1) rfl dL_step_50 (fun H locs hP hD hS => ?_)
      have hP : va_P D vwCl [(xh, .inr (4, [.ref ch, .ref bh, .ref lg, .int lgd, .ref sh, .ref vh])), (ch, .inr (0, [.ref ca, .int ccc, .int cac, .int cfc, .int clc])), (ca, .inl (cI, 10, .inl cf)), (bh, .inr (0, [.ref ba, .int bcc, .int bac, .int bfc, .int blc])), (ba, .inl (cI, 10, .inl bf)), (lg, .inl (cI, 12, .inl lgf)), (sh, .inr (2, [.ref sa, .int cnt, .int call])), (sa, .inl (cI, 12, .inl swf)), (vh, .inr (3, [.ref va])), (va, .inl (cI, 12, .inl fnf)), (qb, .inl (cI, 12, .inl fb)), (qk, .inl (cI, 12, .inl fk)), (qg, .inl (cI, 3, .inl (upd (upd fg 0 (2 + (p2 - p2 / 3 * 3))) 1 (2 + (p3 - p3 / 2 * 2))))), (ql, .inl (cI, 12, .inl fl))] H := hP
      have hD : va_D A [(xh, .inr (4, [.ref ch, .ref bh, .ref lg, .int lgd, .ref sh, .ref vh])), (ch, .inr (0, [.ref ca, .int ccc, .int cac, .int cfc, .int clc])), (ca, .inl (cI, 10, .inl cf)), (bh, .inr (0, [.ref ba, .int bcc, .int bac, .int bfc, .int blc])), (ba, .inl (cI, 10, .inl bf)), (lg, .inl (cI, 12, .inl lgf)), (sh, .inr (2, [.ref sa, .int cnt, .int call])), (sa, .inl (cI, 12, .inl swf)), (vh, .inr (3, [.ref va])), (va, .inl (cI, 12, .inl fnf)), (qb, .inl (cI, 12, .inl fb)), (qk, .inl (cI, 12, .inl fk)), (qg, .inl (cI, 3, .inl (upd (upd fg 0 (2 + (p2 - p2 / 3 * 3))) 1 (2 + (p3 - p3 / 2 * 2))))), (ql, .inl (cI, 12, .inl fl))] := hD
      refine lv_aload hx hb dL_step_51 (lv_at hl 7 rfl) ?_
      refine lv_iconst (v := 2) hx hb dL_step_53 (by decide) ?_
      refine lv_iconst (v := 0) hx hb dL_step_54 (by decide) ?_
      refine ff_iastK hx hb hK hP hD hS 12 0 rfl rfl (vp_in_nI (n := 2) (N := 3) (by decide) (by decide)) (k := 2) rfl dL_step_55 (fun H locs hP hD hS => ?_)
      have hP : va_P D vwCl [(xh, .inr (4, [.ref ch, .ref bh, .ref lg, .int lgd, .ref sh, .ref vh])), (ch, .inr (0, [.ref ca, .int ccc, .int cac, .int cfc, .int clc])), (ca, .inl (cI, 10, .inl cf)), (bh, .inr (0, [.ref ba, .int bcc, .int bac, .int bfc, .int blc])), (ba, .inl (cI, 10, .inl bf)), (lg, .inl (cI, 12, .inl lgf)), (sh, .inr (2, [.ref sa, .int cnt, .int call])), (sa, .inl (cI, 12, .inl swf)), (vh, .inr (3, [.ref va])), (va, .inl (cI, 12, .inl fnf)), (qb, .inl (cI, 12, .inl fb)), (qk, .inl (cI, 12, .inl fk)), (qg, .inl (cI, 3, .inl (upd (upd (upd fg 0 (2 + (p2 - p2 / 3 * 3))) 1 (2 + (p3 - p3 / 2 * 2))) 2 0))), (ql, .inl (cI, 12, .inl fl))] H := hP
      have hD : va_D A [(xh, .inr (4, [.ref ch, .ref bh, .ref lg, .int lgd, .ref sh, .ref vh])), (ch, .inr (0, [.ref ca, .int ccc, .int cac, .int cfc, .int clc])), (ca, .inl (cI, 10, .inl cf)), (bh, .inr (0, [.ref ba, .int bcc, .int bac, .int bfc, .int blc])), (ba, .inl (cI, 10, .inl bf)), (lg, .inl (cI, 12, .inl lgf)), (sh, .inr (2, [.ref sa, .int cnt, .int call])), (sa, .inl (cI, 12, .inl swf)), (vh, .inr (3, [.ref va])), (va, .inl (cI, 12, .inl fnf)), (qb, .inl (cI, 12, .inl fb)), (qk, .inl (cI, 12, .inl fk)), (qg, .inl (cI, 3, .inl (upd (upd (upd fg 0 (2 + (p2 - p2 / 3 * 3))) 1 (2 + (p3 - p3 / 2 * 2))) 2 0))), (ql, .inl (cI, 12, .inl fl))] := hD
      refine lv_iconst (v := 0) hx hb dL_step_56 (by decide) ?_
      refine lv_istore (lv' := [(9, .int 0), (8, .int y_8), (0, .ref xh), (1, .int p1), (2, .int p2), (3, .int p3), (4, .ref qb), (5, .ref qk), (6, .ref qg), (7, .ref ql)]) hx hb dL_step_57 hl (by decide) rfl (fun ls hl => ?_)
      exact L59 _ _ _ _ _ _ _ _ _ _ _ _ _ _ _ _ _ _ _ _ _ _ _ _ _ _ h (Nat.lt_succ_self _) (hP.sub [0, 1, 2, 3, 4, 5, 6, 7, 8, 9, 10, 11, 12, 13] rfl) (hD.sub [0, 1, 2, 3, 4, 5, 6, 7, 8, 9, 10, 11, 12, 13] (by decide) rfl) hS (lv_sub hl [2, 3, 4, 5, 6, 7, 8, 9, 1, 0] rfl)
theorem c_L_step (l : Launch) (hst : l.stackTraces = false) (D : va_G) (cI : ClassId) (xh ch ca bh ba lg sh sa vh va qb qk qg ql : Nat) (sz : Nat) (lgd : Int32) (ccc : Int32) (cac : Int32) (cfc : Int32) (clc : Int32) (cf : Nat → Int32) (bcc : Int32) (bac : Int32) (bfc : Int32) (blc : Int32) (bf : Nat → Int32) (lgf : Nat → Int32) (cnt : Int32) (call : Int32) (swf : Nat → Int32) (fnf : Nat → Int32) (fb : Nat → Int32) (fk : Nat → Int32) (fg : Nat → Int32) (fl : Nat → Int32) (p1 : Int32) (p2 : Int32) (p3 : Int32) (hpre : PI lgd ccc cac cfc clc cf bcc bac bfc blc bf lgf fb fk fg fl ∧ ¬ p1 < 0 ∧ ¬ p2 < 0 ∧ ¬ p3 < 0) : Met l yL_step wsL_step ({ frames := 40, cells := 4, slots := 30, locals := 1079 } : Room) (ffx_Pc D [(cI, .int)] [.ref xh, .int p1, .int p2, .int p3, .ref qb, .ref qk, .ref qg, .ref ql] ([(xh, .inr (4, [.ref ch, .ref bh, .ref lg, .int lgd, .ref sh, .ref vh])), (ch, .inr (0, [.ref ca, .int ccc, .int cac, .int cfc, .int clc])), (ca, .inl (cI, 10, .inl cf)), (bh, .inr (0, [.ref ba, .int bcc, .int bac, .int bfc, .int blc])), (ba, .inl (cI, 10, .inl bf)), (lg, .inl (cI, 12, .inl lgf)), (sh, .inr (2, [.ref sa, .int cnt, .int call])), (sa, .inl (cI, 12, .inl swf)), (vh, .inr (3, [.ref va])), (va, .inl (cI, 12, .inl fnf)), (qb, .inl (cI, 12, .inl fb)), (qk, .inl (cI, 12, .inl fk)), (qg, .inl (cI, 3, .inl fg)), (ql, .inl (cI, 12, .inl fl))] : va_W) sz) (va_Qi (fun (r : Int32) (u : Int32 × Int32 × Int32 × Int32 × (Nat → Int32) × Int32 × Int32 × Int32 × Int32 × (Nat → Int32) × (Nat → Int32) × Int32 × Int32 × Int32 × (Nat → Int32) × (Nat → Int32) × (Nat → Int32) × (Nat → Int32) × (Nat → Int32) × (Nat → Int32)) => r = 1 ∧ (PI u.2.2.2.2.2.2.2.2.2.2.2.1 u.1 u.2.1 u.2.2.1 u.2.2.2.1 u.2.2.2.2.1 u.2.2.2.2.2.1 u.2.2.2.2.2.2.1 u.2.2.2.2.2.2.2.1 u.2.2.2.2.2.2.2.2.1 u.2.2.2.2.2.2.2.2.2.1 u.2.2.2.2.2.2.2.2.2.2.1 u.2.2.2.2.2.2.2.2.2.2.2.2.2.2.2.2.1 u.2.2.2.2.2.2.2.2.2.2.2.2.2.2.2.2.2.1 u.2.2.2.2.2.2.2.2.2.2.2.2.2.2.2.2.2.2.1 u.2.2.2.2.2.2.2.2.2.2.2.2.2.2.2.2.2.2.2)) (fun (u : Int32 × Int32 × Int32 × Int32 × (Nat → Int32) × Int32 × Int32 × Int32 × Int32 × (Nat → Int32) × (Nat → Int32) × Int32 × Int32 × Int32 × (Nat → Int32) × (Nat → Int32) × (Nat → Int32) × (Nat → Int32) × (Nat → Int32) × (Nat → Int32)) t => ff_B D [(cI, .int)] (va_A ([(xh, .inr (4, [.ref ch, .ref bh, .ref lg, .int lgd, .ref sh, .ref vh])), (ch, .inr (0, [.ref ca, .int ccc, .int cac, .int cfc, .int clc])), (ca, .inl (cI, 10, .inl cf)), (bh, .inr (0, [.ref ba, .int bcc, .int bac, .int bfc, .int blc])), (ba, .inl (cI, 10, .inl bf)), (lg, .inl (cI, 12, .inl lgf)), (sh, .inr (2, [.ref sa, .int cnt, .int call])), (sa, .inl (cI, 12, .inl swf)), (vh, .inr (3, [.ref va])), (va, .inl (cI, 12, .inl fnf)), (qb, .inl (cI, 12, .inl fb)), (qk, .inl (cI, 12, .inl fk)), (qg, .inl (cI, 3, .inl fg)), (ql, .inl (cI, 12, .inl fl))] : va_W) sz) [(xh, .inr (4, [.ref ch, .ref bh, .ref lg, .int (u.2.2.2.2.2.2.2.2.2.2.2.1), .ref sh, .ref vh])), (ch, .inr (0, [.ref ca, .int (u.1), .int (u.2.1), .int (u.2.2.1), .int (u.2.2.2.1)])), (ca, .inl (cI, 10, .inl (u.2.2.2.2.1))), (bh, .inr (0, [.ref ba, .int (u.2.2.2.2.2.1), .int (u.2.2.2.2.2.2.1), .int (u.2.2.2.2.2.2.2.1), .int (u.2.2.2.2.2.2.2.2.1)])), (ba, .inl (cI, 10, .inl (u.2.2.2.2.2.2.2.2.2.1))), (lg, .inl (cI, 12, .inl (u.2.2.2.2.2.2.2.2.2.2.1))), (sh, .inr (2, [.ref sa, .int (u.2.2.2.2.2.2.2.2.2.2.2.2.1), .int (u.2.2.2.2.2.2.2.2.2.2.2.2.2.1)])), (sa, .inl (cI, 12, .inl (u.2.2.2.2.2.2.2.2.2.2.2.2.2.2.1))), (vh, .inr (3, [.ref va])), (va, .inl (cI, 12, .inl (u.2.2.2.2.2.2.2.2.2.2.2.2.2.2.2.1))), (qb, .inl (cI, 12, .inl (u.2.2.2.2.2.2.2.2.2.2.2.2.2.2.2.2.1))), (qk, .inl (cI, 12, .inl (u.2.2.2.2.2.2.2.2.2.2.2.2.2.2.2.2.2.1))), (qg, .inl (cI, 3, .inl (u.2.2.2.2.2.2.2.2.2.2.2.2.2.2.2.2.2.2.1))), (ql, .inl (cI, 12, .inl (u.2.2.2.2.2.2.2.2.2.2.2.2.2.2.2.2.2.2.2)))] t) (va_A ([(xh, .inr (4, [.ref ch, .ref bh, .ref lg, .int lgd, .ref sh, .ref vh])), (ch, .inr (0, [.ref ca, .int ccc, .int cac, .int cfc, .int clc])), (ca, .inl (cI, 10, .inl cf)), (bh, .inr (0, [.ref ba, .int bcc, .int bac, .int bfc, .int blc])), (ba, .inl (cI, 10, .inl bf)), (lg, .inl (cI, 12, .inl lgf)), (sh, .inr (2, [.ref sa, .int cnt, .int call])), (sa, .inl (cI, 12, .inl swf)), (vh, .inr (3, [.ref va])), (va, .inl (cI, 12, .inl fnf)), (qb, .inl (cI, 12, .inl fb)), (qk, .inl (cI, 12, .inl fk)), (qg, .inl (cI, 3, .inl fg)), (ql, .inl (cI, 12, .inl fl))] : va_W) sz)) 4 30 (va_A ([(xh, .inr (4, [.ref ch, .ref bh, .ref lg, .int lgd, .ref sh, .ref vh])), (ch, .inr (0, [.ref ca, .int ccc, .int cac, .int cfc, .int clc])), (ca, .inl (cI, 10, .inl cf)), (bh, .inr (0, [.ref ba, .int bcc, .int bac, .int bfc, .int blc])), (ba, .inl (cI, 10, .inl bf)), (lg, .inl (cI, 12, .inl lgf)), (sh, .inr (2, [.ref sa, .int cnt, .int call])), (sa, .inl (cI, 12, .inl swf)), (vh, .inr (3, [.ref va])), (va, .inl (cI, 12, .inl fnf)), (qb, .inl (cI, 12, .inl fb)), (qk, .inl (cI, 12, .inl fk)), (qg, .inl (cI, 3, .inl fg)), (ql, .inl (cI, 12, .inl fl))] : va_W) sz) :=
  a_L_step l hst D cI xh ch ca bh ba lg sh sa vh va qb qk qg ql sz lgd ccc cac cfc clc cf bcc bac bfc blc bf lgf cnt call swf fnf fb fk fg fl p1 p2 p3 _ (I_L_step_59 lgd ccc cac cfc clc cf bcc bac bfc blc bf lgf cnt call swf fnf fb fk fg fl p1 p2 p3) (mu_L_step_59 lgd ccc cac cfc clc cf bcc bac bfc blc bf lgf cnt call swf fnf fb fk fg fl p1 p2 p3) (pl_L_step_59 lgd ccc cac cfc clc cf bcc bac bfc blc bf lgf cnt call swf fnf fb fk fg fl p1 p2 p3 hpre) (pe_L_step lgd ccc cac cfc clc cf bcc bac bfc blc bf lgf cnt call swf fnf fb fk fg fl p1 p2 p3 hpre)
theorem kL_draw_1 : (.constant RL 7 (919329249) : Cond) ∈ wsL_draw := List.mem_of_getElem? (i := 1) rfl
theorem kL_draw_2 : (.constant RL 8 (1340192677) : Cond) ∈ wsL_draw := List.mem_of_getElem? (i := 2) rfl
theorem kL_draw_3 : (.constant RL 9 (2147483647) : Cond) ∈ wsL_draw := List.mem_of_getElem? (i := 3) rfl
set_option maxHeartbeats 4000000 in
set_option maxRecDepth 100000 in
theorem a_L_draw (l : Launch) (D : va_G) (cI : ClassId) (b : Nat) (sz : Nat) (L : Nat) (xs : Nat → Int32) (p1 : Int32) (p2 : Int32) (P : Int32 → Unit → Prop)  (he : ve_L_draw L xs p1 p2 P ) : Met l yL_draw wsL_draw ({ frames := 0, cells := 0, slots := 0, locals := 0 } : Room) (fs_Pc D [(cI, .int)] [.ref b, .int p1, .int p2] sz b L xs) (va_Qi P (fun (u : Unit) t => ff_B D [(cI, .int)] (va_A ([] : va_W) sz) [] t) (va_A ([] : va_W) sz)) 0 0 (va_A ([] : va_W) sz) := by
  refine fs_metI (by decide +kernel) rfl (Nat.le_of_ble_eq_true rfl) ?_
  intro p e s m args below meth c A Q ls H hx hb hml hown hts hN hZ hA hK hP hD hS hX hbl hbA hret hl
  have h := he
  unfold ve_L_draw at h
  have hl : lv_has ls 4 [(0, .ref b), (1, .int p1), (2, .int p2)] := hl
  refine lv_iload_n hx hb dL_draw_0 rfl (lv_at hl 1 rfl) ?_
  refine lv_aload_n hx hb dL_draw_1 rfl (lv_at hl 0 rfl) ?_
  refine va_slen hx hb hX hbl hbA hS dL_draw_2 ?_
  refine lv_icmp_ge (tgt := 12) hx hb dL_draw_3 (by decide) (fun c_1 => ?_) (fun c_1 => ?_)
  · have h := h.1 c_1
    refine lv_ldc hx hb hown (hts _ kL_draw_1) dL_draw_12 ?_
    refine lv_iload_n hx hb dL_draw_14 rfl (lv_at hl 1 rfl) ?_
    refine lv_sipush (v := 151) hx hb dL_draw_15 (by decide) ?_
    refine lv_iadd hx hb dL_draw_18 ?_
    refine lv_imul hx hb dL_draw_19 ?_
    refine lv_ldc hx hb hown (hts _ kL_draw_2) dL_draw_20 ?_
    refine lv_iadd hx hb dL_draw_22 ?_
    refine lv_topi (fun y_2 ey_2 => ?_)
    have h := h y_2 ey_2
    refine lv_istore_n (lv' := [(3, .int y_2), (0, .ref b), (1, .int p1), (2, .int p2)]) hx hb dL_draw_23 rfl hl (by decide) rfl (fun ls hl => ?_)
    refine lv_iload_n hx hb dL_draw_24 rfl (lv_at hl 0 rfl) ?_
    refine lv_ldc hx hb hown (hts _ kL_draw_3) dL_draw_25 ?_
    refine lv_iand hx hb dL_draw_27 ?_
    refine lv_iload_n hx hb dL_draw_28 rfl (lv_at hl 3 rfl) ?_
    obtain ⟨n_3, h⟩ := h
    refine lv_irem hx hb dL_draw_29 n_3 ?_
    exact hret ((y_2 &&& 2147483647) - (y_2 &&& 2147483647) / p2 * p2) () _ _ _ _ _ _ h (hP.sub [] rfl) (hD.sub [] (by decide) rfl) hS (Nat.le_of_ble_eq_true rfl) (Nat.le_of_ble_eq_true rfl) dL_draw_30
  · have h := h.2 c_1
    refine lv_aload_n hx hb dL_draw_6 rfl (lv_at hl 0 rfl) ?_
    refine lv_iload_n hx hb dL_draw_7 rfl (lv_at hl 1 rfl) ?_
    obtain ⟨i_4, h⟩ := h
    refine va_sld hx hb hX hbl hbA hS i_4 dL_draw_8 ?_
    refine lv_goto (tgt := 23) hx hb dL_draw_9 (by decide) ?_
    refine lv_topi (fun y_5 ey_5 => ?_)
    have h := h y_5 ey_5
    refine lv_istore_n (lv' := [(3, .int y_5), (0, .ref b), (1, .int p1), (2, .int p2)]) hx hb dL_draw_23 rfl hl (by decide) rfl (fun ls hl => ?_)
    refine lv_iload_n hx hb dL_draw_24 rfl (lv_at hl 0 rfl) ?_
    refine lv_ldc hx hb hown (hts _ kL_draw_3) dL_draw_25 ?_
    refine lv_iand hx hb dL_draw_27 ?_
    refine lv_iload_n hx hb dL_draw_28 rfl (lv_at hl 3 rfl) ?_
    obtain ⟨n_6, h⟩ := h
    refine lv_irem hx hb dL_draw_29 n_6 ?_
    exact hret ((y_5 &&& 2147483647) - (y_5 &&& 2147483647) / p2 * p2) () _ _ _ _ _ _ h (hP.sub [] rfl) (hD.sub [] (by decide) rfl) hS (Nat.le_of_ble_eq_true rfl) (Nat.le_of_ble_eq_true rfl) dL_draw_30
theorem c_L_draw (l : Launch) (D : va_G) (cI : ClassId) (b : Nat) (sz : Nat) (L : Nat) (xs : Nat → Int32) (p1 : Int32) (p2 : Int32) (hpre : ¬ p1 < 0 ∧ (0 : Int32) < p2 ∧ L ≤ 260) : Met l yL_draw wsL_draw ({ frames := 0, cells := 0, slots := 0, locals := 0 } : Room) (fs_Pc D [(cI, .int)] [.ref b, .int p1, .int p2] sz b L xs) (va_Qi (fun (r : Int32) (u : Unit) => (¬ r < 0 ∧ r < p2)) (fun (u : Unit) t => ff_B D [(cI, .int)] (va_A ([] : va_W) sz) [] t) (va_A ([] : va_W) sz)) 0 0 (va_A ([] : va_W) sz) :=
  a_L_draw l D cI b sz L xs p1 p2 _  (pe_L_draw L xs p1 p2 hpre)
