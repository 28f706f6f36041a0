set_option maxHeartbeats 4000000 in
set_option maxRecDepth 100000 in
theorem a_L_isBoard (l : Launch) (D : va_G) (cI : ClassId) (xh ch ca bh ba lg sh sa vh va qb qk qg : Nat) (sz : Nat) (lgd : Int32) (ccc : Int32) (cac : Int32) (cfc : Int32) (clc : Int32) (cf : Nat → Int32) (bcc : Int32) (bac : Int32) (bfc : Int32) (blc : Int32) (bf : Nat → Int32) (lgf : Nat → Int32) (cnt : Int32) (call : Int32) (swf : Nat → Int32) (fnf : Nat → Int32) (fb : Nat → Int32) (fk : Nat → Int32) (fg : Nat → Int32) (P : Int32 → ((Nat → Int32)) → Prop) (I45 : Int32 → Int32 → Int32 → (Nat → Int32) → Prop) (mu45 : Int32 → Int32 → Int32 → (Nat → Int32) → Nat) (I128 : Int32 → Int32 → Int32 → Int32 → Int32 → Int32 → (Nat → Int32) → Prop) (mu128 : Int32 → Int32 → Int32 → Int32 → Int32 → Int32 → (Nat → Int32) → Nat) (I192 : Int32 → Int32 → Int32 → Int32 → Int32 → Int32 → (Nat → Int32) → Prop) (mu192 : Int32 → Int32 → Int32 → Int32 → Int32 → Int32 → (Nat → Int32) → Nat) (hv45 : ∀ (x4 : Int32) (x5 : Int32) (x6 : Int32) (bf' : Nat → Int32), I45 x4 x5 x6 bf' → vs_L_isBoard_45 lgd ccc cac cfc clc cf bcc bac bfc blc bf lgf cnt call swf fnf fb fk fg P (fun (x49 : Int32) (x59 : Int32) (x69 : Int32) (bf9 : Nat → Int32) => I45 x49 x59 x69 bf9 ∧ mu45 x49 x59 x69 bf9 < mu45 x4 x5 x6 bf') (fun (x49 : Int32) (x59 : Int32) (x69 : Int32) (x79 : Int32) (x89 : Int32) (x99 : Int32) (bf9 : Nat → Int32) => I128 x49 x59 x69 x79 x89 x99 bf9 ∧ mu128 x49 x59 x69 x79 x89 x99 bf9 < mu45 x4 x5 x6 bf') (fun (x49 : Int32) (x59 : Int32) (x69 : Int32) (x79 : Int32) (x89 : Int32) (x99 : Int32) (bf9 : Nat → Int32) => I192 x49 x59 x69 x79 x89 x99 bf9 ∧ mu192 x49 x59 x69 x79 x89 x99 bf9 < mu45 x4 x5 x6 bf') x4 x5 x6 bf') (hv128 : ∀ (x4 : Int32) (x5 : Int32) (x6 : Int32) (x7 : Int32) (x8 : Int32) (x9 : Int32) (bf' : Nat → Int32), I128 x4 x5 x6 x7 x8 x9 bf' → vs_L_isBoard_128 lgd ccc cac cfc clc cf bcc bac bfc blc bf lgf cnt call swf fnf fb fk fg P (fun (x49 : Int32) (x59 : Int32) (x69 : Int32) (bf9 : Nat → Int32) => I45 x49 x59 x69 bf9 ∧ mu45 x49 x59 x69 bf9 < mu128 x4 x5 x6 x7 x8 x9 bf') (fun (x49 : Int32) (x59 : Int32) (x69 : Int32) (x79 : Int32) (x89 : Int32) (x99 : Int32) (bf9 : Nat → Int32) => I128 x49 x59 x69 x79 x89 x99 bf9 ∧ mu128 x49 x59 x69 x79 x89 x99 bf9 < mu128 x4 x5 x6 x7 x8 x9 bf') (fun (x49 : Int32) (x59 : Int32) (x69 : Int32) (x79 : Int32) (x89 : Int32) (x99 : Int32) (bf9 : Nat → Int32) => I192 x49 x59 x69 x79 x89 x99 bf9 ∧ mu192 x49 x59 x69 x79 x89 x99 bf9 < mu128 x4 x5 x6 x7 x8 x9 bf') x4 x5 x6 x7 x8 x9 bf') (hv192 : ∀ (x4 : Int32) (x5 : Int32) (x6 : Int32) (x7 : Int32) (x8 : Int32) (x9 : Int32) (bf' : Nat → Int32), I192 x4 x5 x6 x7 x8 x9 bf' → vs_L_isBoard_192 lgd ccc cac cfc clc cf bcc bac bfc blc bf lgf cnt call swf fnf fb fk fg P (fun (x49 : Int32) (x59 : Int32) (x69 : Int32) (bf9 : Nat → Int32) => I45 x49 x59 x69 bf9 ∧ mu45 x49 x59 x69 bf9 < mu192 x4 x5 x6 x7 x8 x9 bf') (fun (x49 : Int32) (x59 : Int32) (x69 : Int32) (x79 : Int32) (x89 : Int32) (x99 : Int32) (bf9 : Nat → Int32) => I128 x49 x59 x69 x79 x89 x99 bf9 ∧ mu128 x49 x59 x69 x79 x89 x99 bf9 < mu192 x4 x5 x6 x7 x8 x9 bf') (fun (x49 : Int32) (x59 : Int32) (x69 : Int32) (x79 : Int32) (x89 : Int32) (x99 : Int32) (bf9 : Nat → Int32) => I192 x49 x59 x69 x79 x89 x99 bf9 ∧ mu192 x49 x59 x69 x79 x89 x99 bf9 < mu192 x4 x5 x6 x7 x8 x9 bf') x4 x5 x6 x7 x8 x9 bf') (he : ve_L_isBoard lgd ccc cac cfc clc cf bcc bac bfc blc bf lgf cnt call swf fnf fb fk fg P I45 I128 I192) : Met l yL_isBoard wsL_isBoard ({ frames := 38, cells := 0, slots := 0, locals := 1026 } : Room) (ff_Pc D [(cI, .int)] [.ref xh, .ref qb, .ref qk, .ref qg] ([(xh, .inr (4, [.ref ch, .ref bh, .ref lg, .int lgd, .ref sh, .ref vh])), (ch, .inr (0, [.ref ca, .int ccc, .int cac, .int cfc, .int clc])), (ca, .inl (cI, 10, .inl cf)), (bh, .inr (0, [.ref ba, .int bcc, .int bac, .int bfc, .int blc])), (ba, .inl (cI, 10, .inl bf)), (lg, .inl (cI, 12, .inl lgf)), (sh, .inr (2, [.ref sa, .int cnt, .int call])), (sa, .inl (cI, 12, .inl swf)), (vh, .inr (3, [.ref va])), (va, .inl (cI, 12, .inl fnf)), (qb, .inl (cI, 12, .inl fb)), (qk, .inl (cI, 12, .inl fk)), (qg, .inl (cI, 3, .inl fg))] : va_W) sz) (va_Qi P (fun (u : (Nat → Int32)) t => ff_B D [(cI, .int)] (va_A ([(xh, .inr (4, [.ref ch, .ref bh, .ref lg, .int lgd, .ref sh, .ref vh])), (ch, .inr (0, [.ref ca, .int ccc, .int cac, .int cfc, .int clc])), (ca, .inl (cI, 10, .inl cf)), (bh, .inr (0, [.ref ba, .int bcc, .int bac, .int bfc, .int blc])), (ba, .inl (cI, 10, .inl bf)), (lg, .inl (cI, 12, .inl lgf)), (sh, .inr (2, [.ref sa, .int cnt, .int call])), (sa, .inl (cI, 12, .inl swf)), (vh, .inr (3, [.ref va])), (va, .inl (cI, 12, .inl fnf)), (qb, .inl (cI, 12, .inl fb)), (qk, .inl (cI, 12, .inl fk)), (qg, .inl (cI, 3, .inl fg))] : va_W) sz) [(xh, .inr (4, [.ref ch, .ref bh, .ref lg, .int lgd, .ref sh, .ref vh])), (ch, .inr (0, [.ref ca, .int ccc, .int cac, .int cfc, .int clc])), (ca, .inl (cI, 10, .inl cf)), (bh, .inr (0, [.ref ba, .int bcc, .int bac, .int bfc, .int blc])), (ba, .inl (cI, 10, .inl u)), (lg, .inl (cI, 12, .inl lgf)), (sh, .inr (2, [.ref sa, .int cnt, .int call])), (sa, .inl (cI, 12, .inl swf)), (vh, .inr (3, [.ref va])), (va, .inl (cI, 12, .inl fnf)), (qb, .inl (cI, 12, .inl fb)), (qk, .inl (cI, 12, .inl fk)), (qg, .inl (cI, 3, .inl fg))] t) (va_A ([(xh, .inr (4, [.ref ch, .ref bh, .ref lg, .int lgd, .ref sh, .ref vh])), (ch, .inr (0, [.ref ca, .int ccc, .int cac, .int cfc, .int clc])), (ca, .inl (cI, 10, .inl cf)), (bh, .inr (0, [.ref ba, .int bcc, .int bac, .int bfc, .int blc])), (ba, .inl (cI, 10, .inl bf)), (lg, .inl (cI, 12, .inl lgf)), (sh, .inr (2, [.ref sa, .int cnt, .int call])), (sa, .inl (cI, 12, .inl swf)), (vh, .inr (3, [.ref va])), (va, .inl (cI, 12, .inl fnf)), (qb, .inl (cI, 12, .inl fb)), (qk, .inl (cI, 12, .inl fk)), (qg, .inl (cI, 3, .inl fg))] : va_W) sz)) 0 0 (va_A ([(xh, .inr (4, [.ref ch, .ref bh, .ref lg, .int lgd, .ref sh, .ref vh])), (ch, .inr (0, [.ref ca, .int ccc, .int cac, .int cfc, .int clc])), (ca, .inl (cI, 10, .inl cf)), (bh, .inr (0, [.ref ba, .int bcc, .int bac, .int bfc, .int blc])), (ba, .inl (cI, 10, .inl bf)), (lg, .inl (cI, 12, .inl lgf)), (sh, .inr (2, [.ref sa, .int cnt, .int call])), (sa, .inl (cI, 12, .inl swf)), (vh, .inr (3, [.ref va])), (va, .inl (cI, 12, .inl fnf)), (qb, .inl (cI, 12, .inl fb)), (qk, .inl (cI, 12, .inl fk)), (qg, .inl (cI, 3, .inl fg))] : va_W) sz) := by
  refine ff_metZ (Wf := (fun (u : (Nat → Int32)) => ([(xh, .inr (4, [.ref ch, .ref bh, .ref lg, .int lgd, .ref sh, .ref vh])), (ch, .inr (0, [.ref ca, .int ccc, .int cac, .int cfc, .int clc])), (ca, .inl (cI, 10, .inl cf)), (bh, .inr (0, [.ref ba, .int bcc, .int bac, .int bfc, .int blc])), (ba, .inl (cI, 10, .inl u)), (lg, .inl (cI, 12, .inl lgf)), (sh, .inr (2, [.ref sa, .int cnt, .int call])), (sa, .inl (cI, 12, .inl swf)), (vh, .inr (3, [.ref va])), (va, .inl (cI, 12, .inl fnf)), (qb, .inl (cI, 12, .inl fb)), (qk, .inl (cI, 12, .inl fk)), (qg, .inl (cI, 3, .inl fg))] : va_W))) (by decide +kernel) rfl (Nat.le_of_ble_eq_true rfl) ?_
  intro p e s m args below meth c A Q ls H hx hb hml hown hts hN hA hK hP hD hS hret hl
  have LL45 : ∀ (N : Nat), (∀ (x4 : Int32) (x5 : Int32) (x6 : Int32) (bf' : Nat → Int32) (H : Heap) (locs : List Loc) (ls : Array Slot), I45 x4 x5 x6 bf' → mu45 x4 x5 x6 bf' < N → va_P D vwCl [(xh, .inr (4, [.ref ch, .ref bh, .ref lg, .int lgd, .ref sh, .ref vh])), (ch, .inr (0, [.ref ca, .int ccc, .int cac, .int cfc, .int clc])), (ca, .inl (cI, 10, .inl cf)), (bh, .inr (0, [.ref ba, .int bcc, .int bac, .int bfc, .int blc])), (ba, .inl (cI, 10, .inl bf')), (lg, .inl (cI, 12, .inl lgf)), (sh, .inr (2, [.ref sa, .int cnt, .int call])), (sa, .inl (cI, 12, .inl swf)), (vh, .inr (3, [.ref va])), (va, .inl (cI, 12, .inl fnf)), (qb, .inl (cI, 12, .inl fb)), (qk, .inl (cI, 12, .inl fk)), (qg, .inl (cI, 3, .inl fg))] H → va_D A [(xh, .inr (4, [.ref ch, .ref bh, .ref lg, .int lgd, .ref sh, .ref vh])), (ch, .inr (0, [.ref ca, .int ccc, .int cac, .int cfc, .int clc])), (ca, .inl (cI, 10, .inl cf)), (bh, .inr (0, [.ref ba, .int bcc, .int bac, .int bfc, .int blc])), (ba, .inl (cI, 10, .inl bf')), (lg, .inl (cI, 12, .inl lgf)), (sh, .inr (2, [.ref sa, .int cnt, .int call])), (sa, .inl (cI, 12, .inl swf)), (vh, .inr (3, [.ref va])), (va, .inl (cI, 12, .inl fnf)), (qb, .inl (cI, 12, .inl fb)), (qk, .inl (cI, 12, .inl fk)), (qg, .inl (cI, 3, .inl fg))] → va_S A s.heap H locs → lv_has ls 10 [(0, .ref xh), (1, .ref qb), (2, .ref qk), (3, .ref qg), (4, .int x4), (5, .int x5), (6, .int x6)] → W p l e ({ frames := 38, cells := 0, slots := 0, locals := 1026 } : Room) s m args below meth c H locs 0 0 Q (F0 m 45 ls [])) ∧ (∀ (x4 : Int32) (x5 : Int32) (x6 : Int32) (x7 : Int32) (x8 : Int32) (x9 : Int32) (bf' : Nat → Int32) (H : Heap) (locs : List Loc) (ls : Array Slot), I128 x4 x5 x6 x7 x8 x9 bf' → mu128 x4 x5 x6 x7 x8 x9 bf' < N → va_P D vwCl [(xh, .inr (4, [.ref ch, .ref bh, .ref lg, .int lgd, .ref sh, .ref vh])), (ch, .inr (0, [.ref ca, .int ccc, .int cac, .int cfc, .int clc])), (ca, .inl (cI, 10, .inl cf)), (bh, .inr (0, [.ref ba, .int bcc, .int bac, .int bfc, .int blc])), (ba, .inl (cI, 10, .inl bf')), (lg, .inl (cI, 12, .inl lgf)), (sh, .inr (2, [.ref sa, .int cnt, .int call])), (sa, .inl (cI, 12, .inl swf)), (vh, .inr (3, [.ref va])), (va, .inl (cI, 12, .inl fnf)), (qb, .inl (cI, 12, .inl fb)), (qk, .inl (cI, 12, .inl fk)), (qg, .inl (cI, 3, .inl fg))] H → va_D A [(xh, .inr (4, [.ref ch, .ref bh, .ref lg, .int lgd, .ref sh, .ref vh])), (ch, .inr (0, [.ref ca, .int ccc, .int cac, .int cfc, .int clc])), (ca, .inl (cI, 10, .inl cf)), (bh, .inr (0, [.ref ba, .int bcc, .int bac, .int bfc, .int blc])), (ba, .inl (cI, 10, .inl bf')), (lg, .inl (cI, 12, .inl lgf)), (sh, .inr (2, [.ref sa, .int cnt, .int call])), (sa, .inl (cI, 12, .inl swf)), (vh, .inr (3, [.ref va])), (va, .inl (cI, 12, .inl fnf)), (qb, .inl (cI, 12, .inl fb)), (qk, .inl (cI, 12, .inl fk)), (qg, .inl (cI, 3, .inl fg))] → va_S A s.heap H locs → lv_has ls 10 [(0, .ref xh), (1, .ref qb), (2, .ref qk), (3, .ref qg), (4, .int x4), (5, .int x5), (6, .int x6), (7, .int x7), (8, .int x8), (9, .int x9)] → W p l e ({ frames := 38, cells := 0, slots := 0, locals := 1026 } : Room) s m args below meth c H locs 0 0 Q (F0 m 128 ls [])) ∧ (∀ (x4 : Int32) (x5 : Int32) (x6 : Int32) (x7 : Int32) (x8 : Int32) (x9 : Int32) (bf' : Nat → Int32) (H : Heap) (locs : List Loc) (ls : Array Slot), I192 x4 x5 x6 x7 x8 x9 bf' → mu192 x4 x5 x6 x7 x8 x9 bf' < N → va_P D vwCl [(xh, .inr (4, [.ref ch, .ref bh, .ref lg, .int lgd, .ref sh, .ref vh])), (ch, .inr (0, [.ref ca, .int ccc, .int cac, .int cfc, .int clc])), (ca, .inl (cI, 10, .inl cf)), (bh, .inr (0, [.ref ba, .int bcc, .int bac, .int bfc, .int blc])), (ba, .inl (cI, 10, .inl bf')), (lg, .inl (cI, 12, .inl lgf)), (sh, .inr (2, [.ref sa, .int cnt, .int call])), (sa, .inl (cI, 12, .inl swf)), (vh, .inr (3, [.ref va])), (va, .inl (cI, 12, .inl fnf)), (qb, .inl (cI, 12, .inl fb)), (qk, .inl (cI, 12, .inl fk)), (qg, .inl (cI, 3, .inl fg))] H → va_D A [(xh, .inr (4, [.ref ch, .ref bh, .ref lg, .int lgd, .ref sh, .ref vh])), (ch, .inr (0, [.ref ca, .int ccc, .int cac, .int cfc, .int clc])), (ca, .inl (cI, 10, .inl cf)), (bh, .inr (0, [.ref ba, .int bcc, .int bac, .int bfc, .int blc])), (ba, .inl (cI, 10, .inl bf')), (lg, .inl (cI, 12, .inl lgf)), (sh, .inr (2, [.ref sa, .int cnt, .int call])), (sa, .inl (cI, 12, .inl swf)), (vh, .inr (3, [.ref va])), (va, .inl (cI, 12, .inl fnf)), (qb, .inl (cI, 12, .inl fb)), (qk, .inl (cI, 12, .inl fk)), (qg, .inl (cI, 3, .inl fg))] → va_S A s.heap H locs → lv_has ls 10 [(0, .ref xh), (1, .ref qb), (2, .ref qk), (3, .ref qg), (4, .int x4), (5, .int x5), (6, .int x6), (7, .int x7), (8, .int x8), (9, .int x9)] → W p l e ({ frames := 38, cells := 0, slots := 0, locals := 1026 } : Room) s m args below meth c H locs 0 0 Q (F0 m 192 ls [])) := by
    intro N
    induction N with
    | zero => exact ⟨by intros; rename_i hz _ _ _ _; exact absurd hz (Nat.not_lt_zero _), by intros; rename_i hz _ _ _ _; exact absurd hz (Nat.not_lt_zero _), by intros; rename_i hz _ _ _ _; exact absurd hz (Nat.not_lt_zero _)⟩
    | succ N ih =>
      refine ⟨?_, ?_, ?_⟩
      · intro x4 x5 x6 bf' H locs ls hI hmu hP hD hS hl
        have h := hv45 x4 x5 x6 bf' hI
        unfold vs_L_isBoard_45 at h
        refine lv_iload hx hb dL_isBoard_45 (lv_at hl 6 rfl) ?_
        refine lv_aload_n hx hb dL_isBoard_47 rfl (lv_at hl 3 rfl) ?_
        refine lv_iconst (v := 0) hx hb dL_isBoard_48 (by decide) ?_
        refine ff_ialdK hx hb hK hP 12 0 rfl rfl (vp_in_nI (n := 0) (N := 3) (by decide) (by decide)) (k := 0) rfl dL_isBoard_49 ?_
        refine lv_aload_n hx hb dL_isBoard_50 rfl (lv_at hl 3 rfl) ?_
        refine lv_iconst (v := 1) hx hb dL_isBoard_51 (by decide) ?_
        refine ff_ialdK hx hb hK hP 12 0 rfl rfl (vp_in_nI (n := 1) (N := 3) (by decide) (by decide)) (k := 1) rfl dL_isBoard_52 ?_
        refine lv_imul hx hb dL_isBoard_53 ?_
        refine lv_icmp_ge (tgt := 224) hx hb dL_isBoard_54 (by decide) (fun c_1 => ?_) (fun c_1 => ?_)
        · have h := h.1 c_1
          refine lv_iload hx hb dL_isBoard_224 (lv_at hl 4 rfl) ?_
          refine lv_if_eq (tgt := 256) hx hb dL_isBoard_226 (by decide) (fun c_2 => ?_) (fun c_2 => ?_)
          · have h := h.1 c_2
            refine lv_iconst (v := 0) hx hb dL_isBoard_256 (by decide) ?_
            exact hret 0 (bf') _ _ _ _ _ _ (by decide) h (hP.sub [0, 1, 2, 3, 4, 5, 6, 7, 8, 9, 10, 11, 12] rfl) (hD.sub [0, 1, 2, 3, 4, 5, 6, 7, 8, 9, 10, 11, 12] (by decide) rfl) hS (Nat.le_of_ble_eq_true rfl) (Nat.le_of_ble_eq_true rfl) dL_isBoard_257
          · have h := h.2 c_2
            refine lv_aload_n hx hb dL_isBoard_229 rfl (lv_at hl 0 rfl) ?_
            have hPc := hP.sub (ws' := [(xh, .inr (4, [.ref ch, .ref bh, .ref lg, .int lgd, .ref sh, .ref vh])), (ch, .inr (0, [.ref ca, .int ccc, .int cac, .int cfc, .int clc])), (ca, .inl (cI, 10, .inl cf)), (bh, .inr (0, [.ref ba, .int bcc, .int bac, .int bfc, .int blc])), (ba, .inl (cI, 10, .inl bf')), (lg, .inl (cI, 12, .inl lgf)), (sh, .inr (2, [.ref sa, .int cnt, .int call])), (sa, .inl (cI, 12, .inl swf)), (vh, .inr (3, [.ref va])), (va, .inl (cI, 12, .inl fnf))]) [0, 1, 2, 3, 4, 5, 6, 7, 8, 9] rfl
            have hDc := hD.sub (ws' := [(xh, .inr (4, [.ref ch, .ref bh, .ref lg, .int lgd, .ref sh, .ref vh])), (ch, .inr (0, [.ref ca, .int ccc, .int cac, .int cfc, .int clc])), (ca, .inl (cI, 10, .inl cf)), (bh, .inr (0, [.ref ba, .int bcc, .int bac, .int bfc, .int blc])), (ba, .inl (cI, 10, .inl bf')), (lg, .inl (cI, 12, .inl lgf)), (sh, .inr (2, [.ref sa, .int cnt, .int call])), (sa, .inl (cI, 12, .inl swf)), (vh, .inr (3, [.ref va])), (va, .inl (cI, 12, .inl fnf))]) [0, 1, 2, 3, 4, 5, 6, 7, 8, 9] (by decide) rfl
            refine ff_callI (va_runV (As := []) (rest := []) ⟨hx, hb, hml, hown, hts⟩ (c_X4_isSolved l D cI xh ch ca bh ba lg sh sa vh va H.size lgd ccc cac cfc clc cf bcc bac bfc blc bf' lgf cnt call swf fnf) (cwV 0 hts gL_isBoard_X4_isSolved rfl rfl rfl (by decide +kernel) ⟨Nat.le_of_ble_eq_true rfl, Nat.le_of_ble_eq_true rfl⟩) (ff_preV (q := (RX4, TX4, 6)) (ci := 4) (q0 := 0) hPc hK hDc hN rfl rfl) rfl rfl hl.1 rfl (lv_room (Nat.le_of_ble_eq_true rfl)) dL_isBoard_230 ⟨Nat.le_of_ble_eq_true rfl, Nat.le_of_ble_eq_true rfl⟩) hP hD hS hA [0, 1, 2, 3, 4, 5, 6, 7, 8, 9] [10, 11, 12] (wr := [(qb, .inl (cI, 12, .inl fb)), (qk, .inl (cI, 12, .inl fk)), (qg, .inl (cI, 3, .inl fg))]) rfl rfl (by decide) (by decide) (fun r u H locs hw hP hD hS => ?_)
            replace hw := hw.symm
            subst hw
            have hP : va_P D vwCl [(qb, .inl (cI, 12, .inl fb)), (qk, .inl (cI, 12, .inl fk)), (qg, .inl (cI, 3, .inl fg)), (xh, .inr (4, [.ref ch, .ref bh, .ref lg, .int lgd, .ref sh, .ref vh])), (ch, .inr (0, [.ref ca, .int ccc, .int cac, .int cfc, .int clc])), (ca, .inl (cI, 10, .inl cf)), (bh, .inr (0, [.ref ba, .int bcc, .int bac, .int bfc, .int blc])), (ba, .inl (cI, 10, .inl bf')), (lg, .inl (cI, 12, .inl lgf)), (sh, .inr (2, [.ref sa, .int cnt, .int call])), (sa, .inl (cI, 12, .inl swf)), (vh, .inr (3, [.ref va])), (va, .inl (cI, 12, .inl fnf))] H := hP
            have hD : va_D A [(qb, .inl (cI, 12, .inl fb)), (qk, .inl (cI, 12, .inl fk)), (qg, .inl (cI, 3, .inl fg)), (xh, .inr (4, [.ref ch, .ref bh, .ref lg, .int lgd, .ref sh, .ref vh])), (ch, .inr (0, [.ref ca, .int ccc, .int cac, .int cfc, .int clc])), (ca, .inl (cI, 10, .inl cf)), (bh, .inr (0, [.ref ba, .int bcc, .int bac, .int bfc, .int blc])), (ba, .inl (cI, 10, .inl bf')), (lg, .inl (cI, 12, .inl lgf)), (sh, .inr (2, [.ref sa, .int cnt, .int call])), (sa, .inl (cI, 12, .inl swf)), (vh, .inr (3, [.ref va])), (va, .inl (cI, 12, .inl fnf))] := hD
            refine lv_iload hx hb dL_isBoard_233 (lv_at hl 5 rfl) ?_
            refine lv_icmp_ne (tgt := 256) hx hb dL_isBoard_235 (by decide) (fun c_3 => ?_) (fun c_3 => ?_)
            · have h := h.2 c_3
              refine lv_iconst (v := 0) hx hb dL_isBoard_256 (by decide) ?_
              exact hret 0 (bf') _ _ _ _ _ _ (by decide) h (hP.sub [3, 4, 5, 6, 7, 8, 9, 10, 11, 12, 0, 1, 2] rfl) (hD.sub [3, 4, 5, 6, 7, 8, 9, 10, 11, 12, 0, 1, 2] (by decide) rfl) hS (Nat.le_of_ble_eq_true rfl) (Nat.le_of_ble_eq_true rfl) dL_isBoard_257
            · have h := h.1 c_3
              refine lv_iload hx hb dL_isBoard_238 (lv_at hl 5 rfl) ?_
              refine lv_if_eq (tgt := 252) hx hb dL_isBoard_240 (by decide) (fun c_4 => ?_) (fun c_4 => ?_)
              · have h := h.1 c_4
                refine lv_iconst (v := 1) hx hb dL_isBoard_252 (by decide) ?_
                refine lv_goto (tgt := 257) hx hb dL_isBoard_253 (by decide) ?_
                exact hret 1 (bf') _ _ _ _ _ _ (by decide) h (hP.sub [3, 4, 5, 6, 7, 8, 9, 10, 11, 12, 0, 1, 2] rfl) (hD.sub [3, 4, 5, 6, 7, 8, 9, 10, 11, 12, 0, 1, 2] (by decide) rfl) hS (Nat.le_of_ble_eq_true rfl) (Nat.le_of_ble_eq_true rfl) dL_isBoard_257
              · have h := h.2 c_4
                refine lv_aload_n hx hb dL_isBoard_243 rfl (lv_at hl 0 rfl) ?_
                refine lv_iconst (v := 5) hx hb dL_isBoard_244 (by decide) ?_
                obtain ⟨p_5, h⟩ := h
                have hPc := hP.sub (ws' := [(xh, .inr (4, [.ref ch, .ref bh, .ref lg, .int lgd, .ref sh, .ref vh])), (ch, .inr (0, [.ref ca, .int ccc, .int cac, .int cfc, .int clc])), (ca, .inl (cI, 10, .inl cf)), (bh, .inr (0, [.ref ba, .int bcc, .int bac, .int bfc, .int blc])), (ba, .inl (cI, 10, .inl bf')), (lg, .inl (cI, 12, .inl lgf)), (sh, .inr (2, [.ref sa, .int cnt, .int call])), (sa, .inl (cI, 12, .inl swf)), (vh, .inr (3, [.ref va])), (va, .inl (cI, 12, .inl fnf))]) [3, 4, 5, 6, 7, 8, 9, 10, 11, 12] rfl
                have hDc := hD.sub (ws' := [(xh, .inr (4, [.ref ch, .ref bh, .ref lg, .int lgd, .ref sh, .ref vh])), (ch, .inr (0, [.ref ca, .int ccc, .int cac, .int cfc, .int clc])), (ca, .inl (cI, 10, .inl cf)), (bh, .inr (0, [.ref ba, .int bcc, .int bac, .int bfc, .int blc])), (ba, .inl (cI, 10, .inl bf')), (lg, .inl (cI, 12, .inl lgf)), (sh, .inr (2, [.ref sa, .int cnt, .int call])), (sa, .inl (cI, 12, .inl swf)), (vh, .inr (3, [.ref va])), (va, .inl (cI, 12, .inl fnf))]) [3, 4, 5, 6, 7, 8, 9, 10, 11, 12] (by decide) rfl
                refine ff_callI (va_runV (As := [.int 5]) (rest := []) ⟨hx, hb, hml, hown, hts⟩ (c_X4_solutionsN l D cI xh ch ca bh ba lg sh sa vh va H.size lgd ccc cac cfc clc cf bcc bac bfc blc bf' lgf cnt call swf fnf 5 p_5) (cwV 1 hts gL_isBoard_X4_solutions rfl rfl rfl (by decide +kernel) ⟨Nat.le_of_ble_eq_true rfl, Nat.le_of_ble_eq_true rfl⟩) (ff_preV (q := (RX4, TX4, 6)) (ci := 4) (q0 := 0) hPc hK hDc hN rfl rfl) rfl rfl hl.1 rfl (lv_room (Nat.le_of_ble_eq_true rfl)) dL_isBoard_245 ⟨Nat.le_of_ble_eq_true rfl, Nat.le_of_ble_eq_true rfl⟩) hP hD hS hA [3, 4, 5, 6, 7, 8, 9, 10, 11, 12] [0, 1, 2] (wr := [(qb, .inl (cI, 12, .inl fb)), (qk, .inl (cI, 12, .inl fk)), (qg, .inl (cI, 3, .inl fg))]) rfl rfl (by decide) (by decide) (fun r u H locs hw hP hD hS => ?_)
                obtain ⟨e0_w, e1_w⟩ := hw
                replace e0_w := e0_w.symm
                subst e0_w
                replace e1_w := e1_w.symm
                subst e1_w
                have hP : va_P D vwCl [(qb, .inl (cI, 12, .inl fb)), (qk, .inl (cI, 12, .inl fk)), (qg, .inl (cI, 3, .inl fg)), (xh, .inr (4, [.ref ch, .ref bh, .ref lg, .int lgd, .ref sh, .ref vh])), (ch, .inr (0, [.ref ca, .int ccc, .int cac, .int cfc, .int clc])), (ca, .inl (cI, 10, .inl cf)), (bh, .inr (0, [.ref ba, .int bcc, .int bac, .int bfc, .int blc])), (ba, .inl (cI, 10, .inl bf')), (lg, .inl (cI, 12, .inl lgf)), (sh, .inr (2, [.ref sa, .int cnt, .int call])), (sa, .inl (cI, 12, .inl swf)), (vh, .inr (3, [.ref va])), (va, .inl (cI, 12, .inl fnf))] H := hP
                have hD : va_D A [(qb, .inl (cI, 12, .inl fb)), (qk, .inl (cI, 12, .inl fk)), (qg, .inl (cI, 3, .inl fg)), (xh, .inr (4, [.ref ch, .ref bh, .ref lg, .int lgd, .ref sh, .ref vh])), (ch, .inr (0, [.ref ca, .int ccc, .int cac, .int cfc, .int clc])), (ca, .inl (cI, 10, .inl cf)), (bh, .inr (0, [.ref ba, .int bcc, .int bac, .int bfc, .int blc])), (ba, .inl (cI, 10, .inl bf')), (lg, .inl (cI, 12, .inl lgf)), (sh, .inr (2, [.ref sa, .int cnt, .int call])), (sa, .inl (cI, 12, .inl swf)), (vh, .inr (3, [.ref va])), (va, .inl (cI, 12, .inl fnf))] := hD
                refine lv_iconst (v := 1) hx hb dL_isBoard_248 (by decide) ?_
                refine lv_icmp_ne (tgt := 256) hx hb dL_isBoard_249 (by decide) (fun c_6 => ?_) (fun c_6 => ?_)
                · have h := h.2 c_6
                  refine lv_iconst (v := 0) hx hb dL_isBoard_256 (by decide) ?_
                  exact hret 0 (bf') _ _ _ _ _ _ (by decide) h (hP.sub [3, 4, 5, 6, 7, 8, 9, 10, 11, 12, 0, 1, 2] rfl) (hD.sub [3, 4, 5, 6, 7, 8, 9, 10, 11, 12, 0, 1, 2] (by decide) rfl) hS (Nat.le_of_ble_eq_true rfl) (Nat.le_of_ble_eq_true rfl) dL_isBoard_257
                · have h := h.1 c_6
                  refine lv_iconst (v := 1) hx hb dL_isBoard_252 (by decide) ?_
                  refine lv_goto (tgt := 257) hx hb dL_isBoard_253 (by decide) ?_
                  exact hret 1 (bf') _ _ _ _ _ _ (by decide) h (hP.sub [3, 4, 5, 6, 7, 8, 9, 10, 11, 12, 0, 1, 2] rfl) (hD.sub [3, 4, 5, 6, 7, 8, 9, 10, 11, 12, 0, 1, 2] (by decide) rfl) hS (Nat.le_of_ble_eq_true rfl) (Nat.le_of_ble_eq_true rfl) dL_isBoard_257
        · have h := h.2 c_1
          refine lv_iload hx hb dL_isBoard_57 (lv_at hl 4 rfl) ?_
          refine lv_if_eq (tgt := 224) hx hb dL_isBoard_59 (by decide) (fun c_7 => ?_) (fun c_7 => ?_)
          · have h := h.1 c_7
            refine lv_iload hx hb dL_isBoard_224 (lv_at hl 4 rfl) ?_
            refine lv_if_eq (tgt := 256) hx hb dL_isBoard_226 (by decide) (fun c_8 => ?_) (fun c_8 => ?_)
            · have h := h.1 c_8
              refine lv_iconst (v := 0) hx hb dL_isBoard_256 (by decide) ?_
              exact hret 0 (bf') _ _ _ _ _ _ (by decide) h (hP.sub [0, 1, 2, 3, 4, 5, 6, 7, 8, 9, 10, 11, 12] rfl) (hD.sub [0, 1, 2, 3, 4, 5, 6, 7, 8, 9, 10, 11, 12] (by decide) rfl) hS (Nat.le_of_ble_eq_true rfl) (Nat.le_of_ble_eq_true rfl) dL_isBoard_257
            · have h := h.2 c_8
              refine lv_aload_n hx hb dL_isBoard_229 rfl (lv_at hl 0 rfl) ?_
              have hPc := hP.sub (ws' := [(xh, .inr (4, [.ref ch, .ref bh, .ref lg, .int lgd, .ref sh, .ref vh])), (ch, .inr (0, [.ref ca, .int ccc, .int cac, .int cfc, .int clc])), (ca, .inl (cI, 10, .inl cf)), (bh, .inr (0, [.ref ba, .int bcc, .int bac, .int bfc, .int blc])), (ba, .inl (cI, 10, .inl bf')), (lg, .inl (cI, 12, .inl lgf)), (sh, .inr (2, [.ref sa, .int cnt, .int call])), (sa, .inl (cI, 12, .inl swf)), (vh, .inr (3, [.ref va])), (va, .inl (cI, 12, .inl fnf))]) [0, 1, 2, 3, 4, 5, 6, 7, 8, 9] rfl
              have hDc := hD.sub (ws' := [(xh, .inr (4, [.ref ch, .ref bh, .ref lg, .int lgd, .ref sh, .ref vh])), (ch, .inr (0, [.ref ca, .int ccc, .int cac, .int cfc, .int clc])), (ca, .inl (cI, 10, .inl cf)), (bh, .inr (0, [.ref ba, .int bcc, .int bac, .int bfc, .int blc])), (ba, .inl (cI, 10, .inl bf')), (lg, .inl (cI, 12, .inl lgf)), (sh, .inr (2, [.ref sa, .int cnt, .int call])), (sa, .inl (cI, 12, .inl swf)), (vh, .inr (3, [.ref va])), (va, .inl (cI, 12, .inl fnf))]) [0, 1, 2, 3, 4, 5, 6, 7, 8, 9] (by decide) rfl
              refine ff_callI (va_runV (As := []) (rest := []) ⟨hx, hb, hml, hown, hts⟩ (c_X4_isSolved l D cI xh ch ca bh ba lg sh sa vh va H.size lgd ccc cac cfc clc cf bcc bac bfc blc bf' lgf cnt call swf fnf) (cwV 0 hts gL_isBoard_X4_isSolved rfl rfl rfl (by decide +kernel) ⟨Nat.le_of_ble_eq_true rfl, Nat.le_of_ble_eq_true rfl⟩) (ff_preV (q := (RX4, TX4, 6)) (ci := 4) (q0 := 0) hPc hK hDc hN rfl rfl) rfl rfl hl.1 rfl (lv_room (Nat.le_of_ble_eq_true rfl)) dL_isBoard_230 ⟨Nat.le_of_ble_eq_true rfl, Nat.le_of_ble_eq_true rfl⟩) hP hD hS hA [0, 1, 2, 3, 4, 5, 6, 7, 8, 9] [10, 11, 12] (wr := [(qb, .inl (cI, 12, .inl fb)), (qk, .inl (cI, 12, .inl fk)), (qg, .inl (cI, 3, .inl fg))]) rfl rfl (by decide) (by decide) (fun r u H locs hw hP hD hS => ?_)
              replace hw := hw.symm
              subst hw
              have hP : va_P D vwCl [(qb, .inl (cI, 12, .inl fb)), (qk, .inl (cI, 12, .inl fk)), (qg, .inl (cI, 3, .inl fg)), (xh, .inr (4, [.ref ch, .ref bh, .ref lg, .int lgd, .ref sh, .ref vh])), (ch, .inr (0, [.ref ca, .int ccc, .int cac, .int cfc, .int clc])), (ca, .inl (cI, 10, .inl cf)), (bh, .inr (0, [.ref ba, .int bcc, .int bac, .int bfc, .int blc])), (ba, .inl (cI, 10, .inl bf')), (lg, .inl (cI, 12, .inl lgf)), (sh, .inr (2, [.ref sa, .int cnt, .int call])), (sa, .inl (cI, 12, .inl swf)), (vh, .inr (3, [.ref va])), (va, .inl (cI, 12, .inl fnf))] H := hP
              have hD : va_D A [(qb, .inl (cI, 12, .inl fb)), (qk, .inl (cI, 12, .inl fk)), (qg, .inl (cI, 3, .inl fg)), (xh, .inr (4, [.ref ch, .ref bh, .ref lg, .int lgd, .ref sh, .ref vh])), (ch, .inr (0, [.ref ca, .int ccc, .int cac, .int cfc, .int clc])), (ca, .inl (cI, 10, .inl cf)), (bh, .inr (0, [.ref ba, .int bcc, .int bac, .int bfc, .int blc])), (ba, .inl (cI, 10, .inl bf')), (lg, .inl (cI, 12, .inl lgf)), (sh, .inr (2, [.ref sa, .int cnt, .int call])), (sa, .inl (cI, 12, .inl swf)), (vh, .inr (3, [.ref va])), (va, .inl (cI, 12, .inl fnf))] := hD
              refine lv_iload hx hb dL_isBoard_233 (lv_at hl 5 rfl) ?_
              refine lv_icmp_ne (tgt := 256) hx hb dL_isBoard_235 (by decide) (fun c_9 => ?_) (fun c_9 => ?_)
              · have h := h.2 c_9
                refine lv_iconst (v := 0) hx hb dL_isBoard_256 (by decide) ?_
                exact hret 0 (bf') _ _ _ _ _ _ (by decide) h (hP.sub [3, 4, 5, 6, 7, 8, 9, 10, 11, 12, 0, 1, 2] rfl) (hD.sub [3, 4, 5, 6, 7, 8, 9, 10, 11, 12, 0, 1, 2] (by decide) rfl) hS (Nat.le_of_ble_eq_true rfl) (Nat.le_of_ble_eq_true rfl) dL_isBoard_257
              · have h := h.1 c_9
                refine lv_iload hx hb dL_isBoard_238 (lv_at hl 5 rfl) ?_
                refine lv_if_eq (tgt := 252) hx hb dL_isBoard_240 (by decide) (fun c_10 => ?_) (fun c_10 => ?_)
                · have h := h.1 c_10
                  refine lv_iconst (v := 1) hx hb dL_isBoard_252 (by decide) ?_
                  refine lv_goto (tgt := 257) hx hb dL_isBoard_253 (by decide) ?_
                  exact hret 1 (bf') _ _ _ _ _ _ (by decide) h (hP.sub [3, 4, 5, 6, 7, 8, 9, 10, 11, 12, 0, 1, 2] rfl) (hD.sub [3, 4, 5, 6, 7, 8, 9, 10, 11, 12, 0, 1, 2] (by decide) rfl) hS (Nat.le_of_ble_eq_true rfl) (Nat.le_of_ble_eq_true rfl) dL_isBoard_257
                · have h := h.2 c_10
                  refine lv_aload_n hx hb dL_isBoard_243 rfl (lv_at hl 0 rfl) ?_
                  refine lv_iconst (v := 5) hx hb dL_isBoard_244 (by decide) ?_
                  obtain ⟨p_11, h⟩ := h
                  have hPc := hP.sub (ws' := [(xh, .inr (4, [.ref ch, .ref bh, .ref lg, .int lgd, .ref sh, .ref vh])), (ch, .inr (0, [.ref ca, .int ccc, .int cac, .int cfc, .int clc])), (ca, .inl (cI, 10, .inl cf)), (bh, .inr (0, [.ref ba, .int bcc, .int bac, .int bfc, .int blc])), (ba, .inl (cI, 10, .inl bf')), (lg, .inl (cI, 12, .inl lgf)), (sh, .inr (2, [.ref sa, .int cnt, .int call])), (sa, .inl (cI, 12, .inl swf)), (vh, .inr (3, [.ref va])), (va, .inl (cI, 12, .inl fnf))]) [3, 4, 5, 6, 7, 8, 9, 10, 11, 12] rfl
                  have hDc := hD.sub (ws' := [(xh, .inr (4, [.ref ch, .ref bh, .ref lg, .int lgd, .ref sh, .ref vh])), (ch, .inr (0, [.ref ca, .int ccc, .int cac, .int cfc, .int clc])), (ca, .inl (cI, 10, .inl cf)), (bh, .inr (0, [.ref ba, .int bcc, .int bac, .int bfc, .int blc])), (ba, .inl (cI, 10, .inl bf')), (lg, .inl (cI, 12, .inl lgf)), (sh, .inr (2, [.ref sa, .int cnt, .int call])), (sa, .inl (cI, 12, .inl swf)), (vh, .inr (3, [.ref va])), (va, .inl (cI, 12, .inl fnf))]) [3, 4, 5, 6, 7, 8, 9, 10, 11, 12] (by decide) rfl
                  refine ff_callI (va_runV (As := [.int 5]) (rest := []) ⟨hx, hb, hml, hown, hts⟩ (c_X4_solutionsN l D cI xh ch ca bh ba lg sh sa vh va H.size lgd ccc cac cfc clc cf bcc bac bfc blc bf' lgf cnt call swf fnf 5 p_11) (cwV 1 hts gL_isBoard_X4_solutions rfl rfl rfl (by decide +kernel) ⟨Nat.le_of_ble_eq_true rfl, Nat.le_of_ble_eq_true rfl⟩) (ff_preV (q := (RX4, TX4, 6)) (ci := 4) (q0 := 0) hPc hK hDc hN rfl rfl) rfl rfl hl.1 rfl (lv_room (Nat.le_of_ble_eq_true rfl)) dL_isBoard_245 ⟨Nat.le_of_ble_eq_true rfl, Nat.le_of_ble_eq_true rfl⟩) hP hD hS hA [3, 4, 5, 6, 7, 8, 9, 10, 11, 12] [0, 1, 2] (wr := [(qb, .inl (cI, 12, .inl fb)), (qk, .inl (cI, 12, .inl fk)), (qg, .inl (cI, 3, .inl fg))]) rfl rfl (by decide) (by decide) (fun r u H locs hw hP hD hS => ?_)
                  obtain ⟨e0_w, e1_w⟩ := hw
                  replace e0_w := e0_w.symm
                  subst e0_w
                  replace e1_w := e1_w.symm
                  subst e1_w
                  have hP : va_P D vwCl [(qb, .inl (cI, 12, .inl fb)), (qk, .inl (cI, 12, .inl fk)), (qg, .inl (cI, 3, .inl fg)), (xh, .inr (4, [.ref ch, .ref bh, .ref lg, .int lgd, .ref sh, .ref vh])), (ch, .inr (0, [.ref ca, .int ccc, .int cac, .int cfc, .int clc])), (ca, .inl (cI, 10, .inl cf)), (bh, .inr (0, [.ref ba, .int bcc, .int bac, .int bfc, .int blc])), (ba, .inl (cI, 10, .inl bf')), (lg, .inl (cI, 12, .inl lgf)), (sh, .inr (2, [.ref sa, .int cnt, .int call])), (sa, .inl (cI, 12, .inl swf)), (vh, .inr (3, [.ref va])), (va, .inl (cI, 12, .inl fnf))] H := hP
                  have hD : va_D A [(qb, .inl (cI, 12, .inl fb)), (qk, .inl (cI, 12, .inl fk)), (qg, .inl (cI, 3, .inl fg)), (xh, .inr (4, [.ref ch, .ref bh, .ref lg, .int lgd, .ref sh, .ref vh])), (ch, .inr (0, [.ref ca, .int ccc, .int cac, .int cfc, .int clc])), (ca, .inl (cI, 10, .inl cf)), (bh, .inr (0, [.ref ba, .int bcc, .int bac, .int bfc, .int blc])), (ba, .inl (cI, 10, .inl bf')), (lg, .inl (cI, 12, .inl lgf)), (sh, .inr (2, [.ref sa, .int cnt, .int call])), (sa, .inl (cI, 12, .inl swf)), (vh, .inr (3, [.ref va])), (va, .inl (cI, 12, .inl fnf))] := hD
                  refine lv_iconst (v := 1) hx hb dL_isBoard_248 (by decide) ?_
                  refine lv_icmp_ne (tgt := 256) hx hb dL_isBoard_249 (by decide) (fun c_12 => ?_) (fun c_12 => ?_)
                  · have h := h.2 c_12
                    refine lv_iconst (v := 0) hx hb dL_isBoard_256 (by decide) ?_
                    exact hret 0 (bf') _ _ _ _ _ _ (by decide) h (hP.sub [3, 4, 5, 6, 7, 8, 9, 10, 11, 12, 0, 1, 2] rfl) (hD.sub [3, 4, 5, 6, 7, 8, 9, 10, 11, 12, 0, 1, 2] (by decide) rfl) hS (Nat.le_of_ble_eq_true rfl) (Nat.le_of_ble_eq_true rfl) dL_isBoard_257
                  · have h := h.1 c_12
                    refine lv_iconst (v := 1) hx hb dL_isBoard_252 (by decide) ?_
                    refine lv_goto (tgt := 257) hx hb dL_isBoard_253 (by decide) ?_
                    exact hret 1 (bf') _ _ _ _ _ _ (by decide) h (hP.sub [3, 4, 5, 6, 7, 8, 9, 10, 11, 12, 0, 1, 2] rfl) (hD.sub [3, 4, 5, 6, 7, 8, 9, 10, 11, 12, 0, 1, 2] (by decide) rfl) hS (Nat.le_of_ble_eq_true rfl) (Nat.le_of_ble_eq_true rfl) dL_isBoard_257
          · have h := h.2 c_7
            refine lv_aload_n hx hb dL_isBoard_62 rfl (lv_at hl 1 rfl) ?_
            refine lv_aload_n hx hb dL_isBoard_63 rfl (lv_at hl 3 rfl) ?_
            refine lv_aload_n hx hb dL_isBoard_64 rfl (lv_at hl 1 rfl) ?_
            refine lv_iload hx hb dL_isBoard_65 (lv_at hl 6 rfl) ?_
            obtain ⟨i_13, h⟩ := h
            refine va_iald hx hb hK hP 10 0 rfl rfl i_13 dL_isBoard_67 ?_
            obtain ⟨p_14, h⟩ := h
            have hPc := hP.sub (ws' := [(qb, .inl (cI, 12, .inl fb)), (qg, .inl (cI, 3, .inl fg))]) [10, 12] rfl
            have hDc := hD.sub (ws' := [(qb, .inl (cI, 12, .inl fb)), (qg, .inl (cI, 3, .inl fg))]) [10, 12] (by decide) rfl
            refine ff_callI (va_runS (As := [.ref qb, .ref qg, .int (fb x6.toNatClampNeg)]) (rest := []) ⟨hx, hb, hml, hown, hts⟩ (c_L_cellsOf l D cI qb qg H.size fb fg (fb x6.toNatClampNeg) p_14) (va_cwS 3 hts gL_isBoard_L_cellsOf rfl rfl rfl (by decide +kernel) ⟨Nat.le_of_ble_eq_true rfl, Nat.le_of_ble_eq_true rfl⟩) (ff_preS hPc hK hDc hN) rfl rfl hl.1 rfl (lv_room (Nat.le_of_ble_eq_true rfl)) dL_isBoard_68 ⟨Nat.le_of_ble_eq_true rfl, Nat.le_of_ble_eq_true rfl⟩) hP hD hS hA [10, 12] [0, 1, 2, 3, 4, 5, 6, 7, 8, 9, 11] (wr := [(xh, .inr (4, [.ref ch, .ref bh, .ref lg, .int lgd, .ref sh, .ref vh])), (ch, .inr (0, [.ref ca, .int ccc, .int cac, .int cfc, .int clc])), (ca, .inl (cI, 10, .inl cf)), (bh, .inr (0, [.ref ba, .int bcc, .int bac, .int bfc, .int blc])), (ba, .inl (cI, 10, .inl bf')), (lg, .inl (cI, 12, .inl lgf)), (sh, .inr (2, [.ref sa, .int cnt, .int call])), (sa, .inl (cI, 12, .inl swf)), (vh, .inr (3, [.ref va])), (va, .inl (cI, 12, .inl fnf)), (qk, .inl (cI, 12, .inl fk))]) rfl rfl (by decide) (by decide) (fun r u H locs hw hP hD hS => ?_)
            replace hw := hw.symm
            subst hw
            have hP : va_P D vwCl [(xh, .inr (4, [.ref ch, .ref bh, .ref lg, .int lgd, .ref sh, .ref vh])), (ch, .inr (0, [.ref ca, .int ccc, .int cac, .int cfc, .int clc])), (ca, .inl (cI, 10, .inl cf)), (bh, .inr (0, [.ref ba, .int bcc, .int bac, .int bfc, .int blc])), (ba, .inl (cI, 10, .inl bf')), (lg, .inl (cI, 12, .inl lgf)), (sh, .inr (2, [.ref sa, .int cnt, .int call])), (sa, .inl (cI, 12, .inl swf)), (vh, .inr (3, [.ref va])), (va, .inl (cI, 12, .inl fnf)), (qk, .inl (cI, 12, .inl fk)), (qb, .inl (cI, 12, .inl fb)), (qg, .inl (cI, 3, .inl fg))] H := hP
            have hD : va_D A [(xh, .inr (4, [.ref ch, .ref bh, .ref lg, .int lgd, .ref sh, .ref vh])), (ch, .inr (0, [.ref ca, .int ccc, .int cac, .int cfc, .int clc])), (ca, .inl (cI, 10, .inl cf)), (bh, .inr (0, [.ref ba, .int bcc, .int bac, .int bfc, .int blc])), (ba, .inl (cI, 10, .inl bf')), (lg, .inl (cI, 12, .inl lgf)), (sh, .inr (2, [.ref sa, .int cnt, .int call])), (sa, .inl (cI, 12, .inl swf)), (vh, .inr (3, [.ref va])), (va, .inl (cI, 12, .inl fnf)), (qk, .inl (cI, 12, .inl fk)), (qb, .inl (cI, 12, .inl fb)), (qg, .inl (cI, 3, .inl fg))] := hD
            refine lv_topi (fun y_15 ey_15 => ?_)
            have h := h y_15 ey_15
            refine lv_istore (lv' := [(7, .int y_15), (0, .ref xh), (1, .ref qb), (2, .ref qk), (3, .ref qg), (4, .int x4), (5, .int x5), (6, .int x6)]) hx hb dL_isBoard_71 hl (by decide) rfl (fun ls hl => ?_)
            refine lv_aload_n hx hb dL_isBoard_73 rfl (lv_at hl 2 rfl) ?_
            refine lv_iload hx hb dL_isBoard_74 (lv_at hl 7 rfl) ?_
            obtain ⟨i_16, h⟩ := h
            refine va_iald hx hb hK hP 11 0 rfl rfl i_16 dL_isBoard_76 ?_
            refine lv_if_ne (tgt := 84) hx hb dL_isBoard_77 (by decide) (fun c_17 => ?_) (fun c_17 => ?_)
            · have h := h.2 c_17
              refine lv_aload_n hx hb dL_isBoard_84 rfl (lv_at hl 4 rfl) ?_
              refine lv_iload hx hb dL_isBoard_85 (lv_at hl 7 rfl) ?_
              refine lv_iload hx hb dL_isBoard_87 (lv_at hl 0 rfl) ?_
              obtain ⟨p_18, h⟩ := h
              have hPc := hP.sub (ws' := [(qg, .inl (cI, 3, .inl fg))]) [12] rfl
              have hDc := hD.sub (ws' := [(qg, .inl (cI, 3, .inl fg))]) [12] (by decide) rfl
              refine ff_callI (va_runS (As := [.ref qg, .int x6, .int y_15]) (rest := []) ⟨hx, hb, hml, hown, hts⟩ (c_L_over l D cI qg H.size fg x6 y_15 p_18) (va_cwS 3 hts gL_isBoard_L_over rfl rfl rfl (by decide +kernel) ⟨Nat.le_of_ble_eq_true rfl, Nat.le_of_ble_eq_true rfl⟩) (ff_preS hPc hK hDc hN) rfl rfl hl.1 rfl (lv_room (Nat.le_of_ble_eq_true rfl)) dL_isBoard_89 ⟨Nat.le_of_ble_eq_true rfl, Nat.le_of_ble_eq_true rfl⟩) hP hD hS hA [12] [0, 1, 2, 3, 4, 5, 6, 7, 8, 9, 10, 11] (wr := [(xh, .inr (4, [.ref ch, .ref bh, .ref lg, .int lgd, .ref sh, .ref vh])), (ch, .inr (0, [.ref ca, .int ccc, .int cac, .int cfc, .int clc])), (ca, .inl (cI, 10, .inl cf)), (bh, .inr (0, [.ref ba, .int bcc, .int bac, .int bfc, .int blc])), (ba, .inl (cI, 10, .inl bf')), (lg, .inl (cI, 12, .inl lgf)), (sh, .inr (2, [.ref sa, .int cnt, .int call])), (sa, .inl (cI, 12, .inl swf)), (vh, .inr (3, [.ref va])), (va, .inl (cI, 12, .inl fnf)), (qk, .inl (cI, 12, .inl fk)), (qb, .inl (cI, 12, .inl fb))]) rfl rfl (by decide) (by decide) (fun r u H locs hw hP hD hS => ?_)
              replace hw := hw.symm
              subst hw
              have hP : va_P D vwCl [(xh, .inr (4, [.ref ch, .ref bh, .ref lg, .int lgd, .ref sh, .ref vh])), (ch, .inr (0, [.ref ca, .int ccc, .int cac, .int cfc, .int clc])), (ca, .inl (cI, 10, .inl cf)), (bh, .inr (0, [.ref ba, .int bcc, .int bac, .int bfc, .int blc])), (ba, .inl (cI, 10, .inl bf')), (lg, .inl (cI, 12, .inl lgf)), (sh, .inr (2, [.ref sa, .int cnt, .int call])), (sa, .inl (cI, 12, .inl swf)), (vh, .inr (3, [.ref va])), (va, .inl (cI, 12, .inl fnf)), (qk, .inl (cI, 12, .inl fk)), (qb, .inl (cI, 12, .inl fb)), (qg, .inl (cI, 3, .inl fg))] H := hP
              have hD : va_D A [(xh, .inr (4, [.ref ch, .ref bh, .ref lg, .int lgd, .ref sh, .ref vh])), (ch, .inr (0, [.ref ca, .int ccc, .int cac, .int cfc, .int clc])), (ca, .inl (cI, 10, .inl cf)), (bh, .inr (0, [.ref ba, .int bcc, .int bac, .int bfc, .int blc])), (ba, .inl (cI, 10, .inl bf')), (lg, .inl (cI, 12, .inl lgf)), (sh, .inr (2, [.ref sa, .int cnt, .int call])), (sa, .inl (cI, 12, .inl swf)), (vh, .inr (3, [.ref va])), (va, .inl (cI, 12, .inl fnf)), (qk, .inl (cI, 12, .inl fk)), (qb, .inl (cI, 12, .inl fb)), (qg, .inl (cI, 3, .inl fg))] := hD
              obtain ⟨p_19, h⟩ := h
              have hPc := hP.sub (ws' := []) [] rfl
              have hDc := hD.sub (ws' := []) [] (by decide) rfl
              refine ff_callI (va_runS (As := [.int (gw (fg 0) (fg 1) y_15 (zbit x6))]) (rest := []) ⟨hx, hb, hml, hown, hts⟩ (c_L_many l D cI H.size (gw (fg 0) (fg 1) y_15 (zbit x6)) p_19) (va_cwS 1 hts gL_isBoard_L_many rfl rfl rfl (by decide +kernel) ⟨Nat.le_of_ble_eq_true rfl, Nat.le_of_ble_eq_true rfl⟩) (ff_preS hPc hK hDc hN) rfl rfl hl.1 rfl (lv_room (Nat.le_of_ble_eq_true rfl)) dL_isBoard_92 ⟨Nat.le_of_ble_eq_true rfl, Nat.le_of_ble_eq_true rfl⟩) hP hD hS hA [] [0, 1, 2, 3, 4, 5, 6, 7, 8, 9, 10, 11, 12] (wr := [(xh, .inr (4, [.ref ch, .ref bh, .ref lg, .int lgd, .ref sh, .ref vh])), (ch, .inr (0, [.ref ca, .int ccc, .int cac, .int cfc, .int clc])), (ca, .inl (cI, 10, .inl cf)), (bh, .inr (0, [.ref ba, .int bcc, .int bac, .int bfc, .int blc])), (ba, .inl (cI, 10, .inl bf')), (lg, .inl (cI, 12, .inl lgf)), (sh, .inr (2, [.ref sa, .int cnt, .int call])), (sa, .inl (cI, 12, .inl swf)), (vh, .inr (3, [.ref va])), (va, .inl (cI, 12, .inl fnf)), (qk, .inl (cI, 12, .inl fk)), (qb, .inl (cI, 12, .inl fb)), (qg, .inl (cI, 3, .inl fg))]) rfl rfl (by decide) (by decide) (fun r u H locs hw hP hD hS => ?_)
              replace hw := hw.symm
              subst hw
              have hP : va_P D vwCl [(xh, .inr (4, [.ref ch, .ref bh, .ref lg, .int lgd, .ref sh, .ref vh])), (ch, .inr (0, [.ref ca, .int ccc, .int cac, .int cfc, .int clc])), (ca, .inl (cI, 10, .inl cf)), (bh, .inr (0, [.ref ba, .int bcc, .int bac, .int bfc, .int blc])), (ba, .inl (cI, 10, .inl bf')), (lg, .inl (cI, 12, .inl lgf)), (sh, .inr (2, [.ref sa, .int cnt, .int call])), (sa, .inl (cI, 12, .inl swf)), (vh, .inr (3, [.ref va])), (va, .inl (cI, 12, .inl fnf)), (qk, .inl (cI, 12, .inl fk)), (qb, .inl (cI, 12, .inl fb)), (qg, .inl (cI, 3, .inl fg))] H := hP
              have hD : va_D A [(xh, .inr (4, [.ref ch, .ref bh, .ref lg, .int lgd, .ref sh, .ref vh])), (ch, .inr (0, [.ref ca, .int ccc, .int cac, .int cfc, .int clc])), (ca, .inl (cI, 10, .inl cf)), (bh, .inr (0, [.ref ba, .int bcc, .int bac, .int bfc, .int blc])), (ba, .inl (cI, 10, .inl bf')), (lg, .inl (cI, 12, .inl lgf)), (sh, .inr (2, [.ref sa, .int cnt, .int call])), (sa, .inl (cI, 12, .inl swf)), (vh, .inr (3, [.ref va])), (va, .inl (cI, 12, .inl fnf)), (qk, .inl (cI, 12, .inl fk)), (qb, .inl (cI, 12, .inl fb)), (qg, .inl (cI, 3, .inl fg))] := hD
              refine lv_topi (fun y_20 ey_20 => ?_)
              have h := h y_20 ey_20
              refine lv_istore (lv' := [(8, .int y_20), (7, .int y_15), (0, .ref xh), (1, .ref qb), (2, .ref qk), (3, .ref qg), (4, .int x4), (5, .int x5), (6, .int x6)]) hx hb dL_isBoard_95 hl (by decide) rfl (fun ls hl => ?_)
              refine lv_aload_n hx hb dL_isBoard_97 rfl (lv_at hl 3 rfl) ?_
              refine lv_iload hx hb dL_isBoard_98 (lv_at hl 8 rfl) ?_
              obtain ⟨i_21, h⟩ := h
              refine va_iald hx hb hK hP 11 0 rfl rfl i_21 dL_isBoard_100 ?_
              refine lv_if_ne (tgt := 108) hx hb dL_isBoard_101 (by decide) (fun c_22 => ?_) (fun c_22 => ?_)
              · have h := h.2 c_22
                refine lv_aload_n hx hb dL_isBoard_108 rfl (lv_at hl 5 rfl) ?_
                refine lv_iload hx hb dL_isBoard_109 (lv_at hl 8 rfl) ?_
                refine lv_iload hx hb dL_isBoard_111 (lv_at hl 1 rfl) ?_
                refine lv_aload_n hx hb dL_isBoard_113 rfl (lv_at hl 3 rfl) ?_
                refine lv_aload_n hx hb dL_isBoard_114 rfl (lv_at hl 5 rfl) ?_
                refine lv_iconst (v := 0) hx hb dL_isBoard_115 (by decide) ?_
                obtain ⟨p_23, h⟩ := h
                have hPc := hP.sub (ws' := [(qb, .inl (cI, 12, .inl fb)), (qg, .inl (cI, 3, .inl fg))]) [11, 12] rfl
                have hDc := hD.sub (ws' := [(qb, .inl (cI, 12, .inl fb)), (qg, .inl (cI, 3, .inl fg))]) [11, 12] (by decide) rfl
                refine ff_callI (va_runS (As := [.ref qb, .ref qg, .int 0]) (rest := [.int y_15, .int x6, .ref qg]) ⟨hx, hb, hml, hown, hts⟩ (c_L_cellsOf l D cI qb qg H.size fb fg 0 p_23) (va_cwS 3 hts gL_isBoard_L_cellsOf rfl rfl rfl (by decide +kernel) ⟨Nat.le_of_ble_eq_true rfl, Nat.le_of_ble_eq_true rfl⟩) (ff_preS hPc hK hDc hN) rfl rfl hl.1 rfl (lv_room (Nat.le_of_ble_eq_true rfl)) dL_isBoard_116 ⟨Nat.le_of_ble_eq_true rfl, Nat.le_of_ble_eq_true rfl⟩) hP hD hS hA [11, 12] [0, 1, 2, 3, 4, 5, 6, 7, 8, 9, 10] (wr := [(xh, .inr (4, [.ref ch, .ref bh, .ref lg, .int lgd, .ref sh, .ref vh])), (ch, .inr (0, [.ref ca, .int ccc, .int cac, .int cfc, .int clc])), (ca, .inl (cI, 10, .inl cf)), (bh, .inr (0, [.ref ba, .int bcc, .int bac, .int bfc, .int blc])), (ba, .inl (cI, 10, .inl bf')), (lg, .inl (cI, 12, .inl lgf)), (sh, .inr (2, [.ref sa, .int cnt, .int call])), (sa, .inl (cI, 12, .inl swf)), (vh, .inr (3, [.ref va])), (va, .inl (cI, 12, .inl fnf)), (qk, .inl (cI, 12, .inl fk))]) rfl rfl (by decide) (by decide) (fun r u H locs hw hP hD hS => ?_)
                replace hw := hw.symm
                subst hw
                have hP : va_P D vwCl [(xh, .inr (4, [.ref ch, .ref bh, .ref lg, .int lgd, .ref sh, .ref vh])), (ch, .inr (0, [.ref ca, .int ccc, .int cac, .int cfc, .int clc])), (ca, .inl (cI, 10, .inl cf)), (bh, .inr (0, [.ref ba, .int bcc, .int bac, .int bfc, .int blc])), (ba, .inl (cI, 10, .inl bf')), (lg, .inl (cI, 12, .inl lgf)), (sh, .inr (2, [.ref sa, .int cnt, .int call])), (sa, .inl (cI, 12, .inl swf)), (vh, .inr (3, [.ref va])), (va, .inl (cI, 12, .inl fnf)), (qk, .inl (cI, 12, .inl fk)), (qb, .inl (cI, 12, .inl fb)), (qg, .inl (cI, 3, .inl fg))] H := hP
                have hD : va_D A [(xh, .inr (4, [.ref ch, .ref bh, .ref lg, .int lgd, .ref sh, .ref vh])), (ch, .inr (0, [.ref ca, .int ccc, .int cac, .int cfc, .int clc])), (ca, .inl (cI, 10, .inl cf)), (bh, .inr (0, [.ref ba, .int bcc, .int bac, .int bfc, .int blc])), (ba, .inl (cI, 10, .inl bf')), (lg, .inl (cI, 12, .inl lgf)), (sh, .inr (2, [.ref sa, .int cnt, .int call])), (sa, .inl (cI, 12, .inl swf)), (vh, .inr (3, [.ref va])), (va, .inl (cI, 12, .inl fnf)), (qk, .inl (cI, 12, .inl fk)), (qb, .inl (cI, 12, .inl fb)), (qg, .inl (cI, 3, .inl fg))] := hD
                refine lv_ior hx hb dL_isBoard_119 ?_
                obtain ⟨p_24, h⟩ := h
                have hPc := hP.sub (ws' := [(qg, .inl (cI, 3, .inl fg))]) [12] rfl
                have hDc := hD.sub (ws' := [(qg, .inl (cI, 3, .inl fg))]) [12] (by decide) rfl
                refine ff_callI (va_runS (As := [.ref qg, .int x6, .int (y_15 ||| (lco fb 0 (mN (fg 0) (fg 1))))]) (rest := []) ⟨hx, hb, hml, hown, hts⟩ (c_L_over l D cI qg H.size fg x6 (y_15 ||| (lco fb 0 (mN (fg 0) (fg 1)))) p_24) (va_cwS 3 hts gL_isBoard_L_over rfl rfl rfl (by decide +kernel) ⟨Nat.le_of_ble_eq_true rfl, Nat.le_of_ble_eq_true rfl⟩) (ff_preS hPc hK hDc hN) rfl rfl hl.1 rfl (lv_room (Nat.le_of_ble_eq_true rfl)) dL_isBoard_120 ⟨Nat.le_of_ble_eq_true rfl, Nat.le_of_ble_eq_true rfl⟩) hP hD hS hA [12] [0, 1, 2, 3, 4, 5, 6, 7, 8, 9, 10, 11] (wr := [(xh, .inr (4, [.ref ch, .ref bh, .ref lg, .int lgd, .ref sh, .ref vh])), (ch, .inr (0, [.ref ca, .int ccc, .int cac, .int cfc, .int clc])), (ca, .inl (cI, 10, .inl cf)), (bh, .inr (0, [.ref ba, .int bcc, .int bac, .int bfc, .int blc])), (ba, .inl (cI, 10, .inl bf')), (lg, .inl (cI, 12, .inl lgf)), (sh, .inr (2, [.ref sa, .int cnt, .int call])), (sa, .inl (cI, 12, .inl swf)), (vh, .inr (3, [.ref va])), (va, .inl (cI, 12, .inl fnf)), (qk, .inl (cI, 12, .inl fk)), (qb, .inl (cI, 12, .inl fb))]) rfl rfl (by decide) (by decide) (fun r u H locs hw hP hD hS => ?_)
                replace hw := hw.symm
                subst hw
                have hP : va_P D vwCl [(xh, .inr (4, [.ref ch, .ref bh, .ref lg, .int lgd, .ref sh, .ref vh])), (ch, .inr (0, [.ref ca, .int ccc, .int cac, .int cfc, .int clc])), (ca, .inl (cI, 10, .inl cf)), (bh, .inr (0, [.ref ba, .int bcc, .int bac, .int bfc, .int blc])), (ba, .inl (cI, 10, .inl bf')), (lg, .inl (cI, 12, .inl lgf)), (sh, .inr (2, [.ref sa, .int cnt, .int call])), (sa, .inl (cI, 12, .inl swf)), (vh, .inr (3, [.ref va])), (va, .inl (cI, 12, .inl fnf)), (qk, .inl (cI, 12, .inl fk)), (qb, .inl (cI, 12, .inl fb)), (qg, .inl (cI, 3, .inl fg))] H := hP
                have hD : va_D A [(xh, .inr (4, [.ref ch, .ref bh, .ref lg, .int lgd, .ref sh, .ref vh])), (ch, .inr (0, [.ref ca, .int ccc, .int cac, .int cfc, .int clc])), (ca, .inl (cI, 10, .inl cf)), (bh, .inr (0, [.ref ba, .int bcc, .int bac, .int bfc, .int blc])), (ba, .inl (cI, 10, .inl bf')), (lg, .inl (cI, 12, .inl lgf)), (sh, .inr (2, [.ref sa, .int cnt, .int call])), (sa, .inl (cI, 12, .inl swf)), (vh, .inr (3, [.ref va])), (va, .inl (cI, 12, .inl fnf)), (qk, .inl (cI, 12, .inl fk)), (qb, .inl (cI, 12, .inl fb)), (qg, .inl (cI, 3, .inl fg))] := hD
                obtain ⟨p_25, h⟩ := h
                have hPc := hP.sub (ws' := []) [] rfl
                have hDc := hD.sub (ws' := []) [] (by decide) rfl
                refine ff_callI (va_runS (As := [.int (gw (fg 0) (fg 1) (y_15 ||| (lco fb 0 (mN (fg 0) (fg 1)))) (zbit x6))]) (rest := []) ⟨hx, hb, hml, hown, hts⟩ (c_L_many l D cI H.size (gw (fg 0) (fg 1) (y_15 ||| (lco fb 0 (mN (fg 0) (fg 1)))) (zbit x6)) p_25) (va_cwS 1 hts gL_isBoard_L_many rfl rfl rfl (by decide +kernel) ⟨Nat.le_of_ble_eq_true rfl, Nat.le_of_ble_eq_true rfl⟩) (ff_preS hPc hK hDc hN) rfl rfl hl.1 rfl (lv_room (Nat.le_of_ble_eq_true rfl)) dL_isBoard_123 ⟨Nat.le_of_ble_eq_true rfl, Nat.le_of_ble_eq_true rfl⟩) hP hD hS hA [] [0, 1, 2, 3, 4, 5, 6, 7, 8, 9, 10, 11, 12] (wr := [(xh, .inr (4, [.ref ch, .ref bh, .ref lg, .int lgd, .ref sh, .ref vh])), (ch, .inr (0, [.ref ca, .int ccc, .int cac, .int cfc, .int clc])), (ca, .inl (cI, 10, .inl cf)), (bh, .inr (0, [.ref ba, .int bcc, .int bac, .int bfc, .int blc])), (ba, .inl (cI, 10, .inl bf')), (lg, .inl (cI, 12, .inl lgf)), (sh, .inr (2, [.ref sa, .int cnt, .int call])), (sa, .inl (cI, 12, .inl swf)), (vh, .inr (3, [.ref va])), (va, .inl (cI, 12, .inl fnf)), (qk, .inl (cI, 12, .inl fk)), (qb, .inl (cI, 12, .inl fb)), (qg, .inl (cI, 3, .inl fg))]) rfl rfl (by decide) (by decide) (fun r u H locs hw hP hD hS => ?_)
                replace hw := hw.symm
                subst hw
                have hP : va_P D vwCl [(xh, .inr (4, [.ref ch, .ref bh, .ref lg, .int lgd, .ref sh, .ref vh])), (ch, .inr (0, [.ref ca, .int ccc, .int cac, .int cfc, .int clc])), (ca, .inl (cI, 10, .inl cf)), (bh, .inr (0, [.ref ba, .int bcc, .int bac, .int bfc, .int blc])), (ba, .inl (cI, 10, .inl bf')), (lg, .inl (cI, 12, .inl lgf)), (sh, .inr (2, [.ref sa, .int cnt, .int call])), (sa, .inl (cI, 12, .inl swf)), (vh, .inr (3, [.ref va])), (va, .inl (cI, 12, .inl fnf)), (qk, .inl (cI, 12, .inl fk)), (qb, .inl (cI, 12, .inl fb)), (qg, .inl (cI, 3, .inl fg))] H := hP
                have hD : va_D A [(xh, .inr (4, [.ref ch, .ref bh, .ref lg, .int lgd, .ref sh, .ref vh])), (ch, .inr (0, [.ref ca, .int ccc, .int cac, .int cfc, .int clc])), (ca, .inl (cI, 10, .inl cf)), (bh, .inr (0, [.ref ba, .int bcc, .int bac, .int bfc, .int blc])), (ba, .inl (cI, 10, .inl bf')), (lg, .inl (cI, 12, .inl lgf)), (sh, .inr (2, [.ref sa, .int cnt, .int call])), (sa, .inl (cI, 12, .inl swf)), (vh, .inr (3, [.ref va])), (va, .inl (cI, 12, .inl fnf)), (qk, .inl (cI, 12, .inl fk)), (qb, .inl (cI, 12, .inl fb)), (qg, .inl (cI, 3, .inl fg))] := hD
                refine lv_topi (fun y_26 ey_26 => ?_)
                have h := h y_26 ey_26
                refine lv_istore (lv' := [(9, .int y_26), (8, .int y_20), (7, .int y_15), (0, .ref xh), (1, .ref qb), (2, .ref qk), (3, .ref qg), (4, .int x4), (5, .int x5), (6, .int x6)]) hx hb dL_isBoard_126 hl (by decide) rfl (fun ls hl => ?_)
                exact ih.2.1 _ _ _ _ _ _ _ _ _ _ h.1 (Nat.lt_of_lt_of_le h.2 (Nat.le_of_lt_succ hmu)) (hP.sub [0, 1, 2, 3, 4, 5, 6, 7, 8, 9, 11, 10, 12] rfl) (hD.sub [0, 1, 2, 3, 4, 5, 6, 7, 8, 9, 11, 10, 12] (by decide) rfl) hS (lv_sub hl [3, 4, 5, 6, 7, 8, 9, 2, 1, 0] rfl)
              · have h := h.1 c_22
                refine lv_iconst (v := 0) hx hb dL_isBoard_104 (by decide) ?_
                refine lv_goto (tgt := 126) hx hb dL_isBoard_105 (by decide) ?_
                refine lv_istore (lv' := [(9, .int 0), (8, .int y_20), (7, .int y_15), (0, .ref xh), (1, .ref qb), (2, .ref qk), (3, .ref qg), (4, .int x4), (5, .int x5), (6, .int x6)]) hx hb dL_isBoard_126 hl (by decide) rfl (fun ls hl => ?_)
                exact ih.2.1 _ _ _ _ _ _ _ _ _ _ h.1 (Nat.lt_of_lt_of_le h.2 (Nat.le_of_lt_succ hmu)) (hP.sub [0, 1, 2, 3, 4, 5, 6, 7, 8, 9, 11, 10, 12] rfl) (hD.sub [0, 1, 2, 3, 4, 5, 6, 7, 8, 9, 11, 10, 12] (by decide) rfl) hS (lv_sub hl [3, 4, 5, 6, 7, 8, 9, 2, 1, 0] rfl)
            · have h := h.1 c_17
              refine lv_iconst (v := 0) hx hb dL_isBoard_80 (by decide) ?_
              refine lv_goto (tgt := 95) hx hb dL_isBoard_81 (by decide) ?_
              refine lv_istore (lv' := [(8, .int 0), (7, .int y_15), (0, .ref xh), (1, .ref qb), (2, .ref qk), (3, .ref qg), (4, .int x4), (5, .int x5), (6, .int x6)]) hx hb dL_isBoard_95 hl (by decide) rfl (fun ls hl => ?_)
              refine lv_aload_n hx hb dL_isBoard_97 rfl (lv_at hl 3 rfl) ?_
              refine lv_iload hx hb dL_isBoard_98 (lv_at hl 8 rfl) ?_
              obtain ⟨i_27, h⟩ := h
              refine va_iald hx hb hK hP 11 0 rfl rfl i_27 dL_isBoard_100 ?_
              refine lv_if_ne (tgt := 108) hx hb dL_isBoard_101 (by decide) (fun c_28 => ?_) (fun c_28 => ?_)
              · have h := h.2 c_28
                refine lv_aload_n hx hb dL_isBoard_108 rfl (lv_at hl 5 rfl) ?_
                refine lv_iload hx hb dL_isBoard_109 (lv_at hl 8 rfl) ?_
                refine lv_iload hx hb dL_isBoard_111 (lv_at hl 1 rfl) ?_
                refine lv_aload_n hx hb dL_isBoard_113 rfl (lv_at hl 3 rfl) ?_
                refine lv_aload_n hx hb dL_isBoard_114 rfl (lv_at hl 5 rfl) ?_
                refine lv_iconst (v := 0) hx hb dL_isBoard_115 (by decide) ?_
                obtain ⟨p_29, h⟩ := h
                have hPc := hP.sub (ws' := [(qb, .inl (cI, 12, .inl fb)), (qg, .inl (cI, 3, .inl fg))]) [11, 12] rfl
                have hDc := hD.sub (ws' := [(qb, .inl (cI, 12, .inl fb)), (qg, .inl (cI, 3, .inl fg))]) [11, 12] (by decide) rfl
                refine ff_callI (va_runS (As := [.ref qb, .ref qg, .int 0]) (rest := [.int y_15, .int x6, .ref qg]) ⟨hx, hb, hml, hown, hts⟩ (c_L_cellsOf l D cI qb qg H.size fb fg 0 p_29) (va_cwS 3 hts gL_isBoard_L_cellsOf rfl rfl rfl (by decide +kernel) ⟨Nat.le_of_ble_eq_true rfl, Nat.le_of_ble_eq_true rfl⟩) (ff_preS hPc hK hDc hN) rfl rfl hl.1 rfl (lv_room (Nat.le_of_ble_eq_true rfl)) dL_isBoard_116 ⟨Nat.le_of_ble_eq_true rfl, Nat.le_of_ble_eq_true rfl⟩) hP hD hS hA [11, 12] [0, 1, 2, 3, 4, 5, 6, 7, 8, 9, 10] (wr := [(xh, .inr (4, [.ref ch, .ref bh, .ref lg, .int lgd, .ref sh, .ref vh])), (ch, .inr (0, [.ref ca, .int ccc, .int cac, .int cfc, .int clc])), (ca, .inl (cI, 10, .inl cf)), (bh, .inr (0, [.ref ba, .int bcc, .int bac, .int bfc, .int blc])), (ba, .inl (cI, 10, .inl bf')), (lg, .inl (cI, 12, .inl lgf)), (sh, .inr (2, [.ref sa, .int cnt, .int call])), (sa, .inl (cI, 12, .inl swf)), (vh, .inr (3, [.ref va])), (va, .inl (cI, 12, .inl fnf)), (qk, .inl (cI, 12, .inl fk))]) rfl rfl (by decide) (by decide) (fun r u H locs hw hP hD hS => ?_)
                replace hw := hw.symm
                subst hw
                have hP : va_P D vwCl [(xh, .inr (4, [.ref ch, .ref bh, .ref lg, .int lgd, .ref sh, .ref vh])), (ch, .inr (0, [.ref ca, .int ccc, .int cac, .int cfc, .int clc])), (ca, .inl (cI, 10, .inl cf)), (bh, .inr (0, [.ref ba, .int bcc, .int bac, .int bfc, .int blc])), (ba, .inl (cI, 10, .inl bf')), (lg, .inl (cI, 12, .inl lgf)), (sh, .inr (2, [.ref sa, .int cnt, .int call])), (sa, .inl (cI, 12, .inl swf)), (vh, .inr (3, [.ref va])), (va, .inl (cI, 12, .inl fnf)), (qk, .inl (cI, 12, .inl fk)), (qb, .inl (cI, 12, .inl fb)), (qg, .inl (cI, 3, .inl fg))] H := hP
                have hD : va_D A [(xh, .inr (4, [.ref ch, .ref bh, .ref lg, .int lgd, .ref sh, .ref vh])), (ch, .inr (0, [.ref ca, .int ccc, .int cac, .int cfc, .int clc])), (ca, .inl (cI, 10, .inl cf)), (bh, .inr (0, [.ref ba, .int bcc, .int bac, .int bfc, .int blc])), (ba, .inl (cI, 10, .inl bf')), (lg, .inl (cI, 12, .inl lgf)), (sh, .inr (2, [.ref sa, .int cnt, .int call])), (sa, .inl (cI, 12, .inl swf)), (vh, .inr (3, [.ref va])), (va, .inl (cI, 12, .inl fnf)), (qk, .inl (cI, 12, .inl fk)), (qb, .inl (cI, 12, .inl fb)), (qg, .inl (cI, 3, .inl fg))] := hD
                refine lv_ior hx hb dL_isBoard_119 ?_
                obtain ⟨p_30, h⟩ := h
                have hPc := hP.sub (ws' := [(qg, .inl (cI, 3, .inl fg))]) [12] rfl
                have hDc := hD.sub (ws' := [(qg, .inl (cI, 3, .inl fg))]) [12] (by decide) rfl
                refine ff_callI (va_runS (As := [.ref qg, .int x6, .int (y_15 ||| (lco fb 0 (mN (fg 0) (fg 1))))]) (rest := []) ⟨hx, hb, hml, hown, hts⟩ (c_L_over l D cI qg H.size fg x6 (y_15 ||| (lco fb 0 (mN (fg 0) (fg 1)))) p_30) (va_cwS 3 hts gL_isBoard_L_over rfl rfl rfl (by decide +kernel) ⟨Nat.le_of_ble_eq_true rfl, Nat.le_of_ble_eq_true rfl⟩) (ff_preS hPc hK hDc hN) rfl rfl hl.1 rfl (lv_room (Nat.le_of_ble_eq_true rfl)) dL_isBoard_120 ⟨Nat.le_of_ble_eq_true rfl, Nat.le_of_ble_eq_true rfl⟩) hP hD hS hA [12] [0, 1, 2, 3, 4, 5, 6, 7, 8, 9, 10, 11] (wr := [(xh, .inr (4, [.ref ch, .ref bh, .ref lg, .int lgd, .ref sh, .ref vh])), (ch, .inr (0, [.ref ca, .int ccc, .int cac, .int cfc, .int clc])), (ca, .inl (cI, 10, .inl cf)), (bh, .inr (0, [.ref ba, .int bcc, .int bac, .int bfc, .int blc])), (ba, .inl (cI, 10, .inl bf')), (lg, .inl (cI, 12, .inl lgf)), (sh, .inr (2, [.ref sa, .int cnt, .int call])), (sa, .inl (cI, 12, .inl swf)), (vh, .inr (3, [.ref va])), (va, .inl (cI, 12, .inl fnf)), (qk, .inl (cI, 12, .inl fk)), (qb, .inl (cI, 12, .inl fb))]) rfl rfl (by decide) (by decide) (fun r u H locs hw hP hD hS => ?_)
                replace hw := hw.symm
                subst hw
                have hP : va_P D vwCl [(xh, .inr (4, [.ref ch, .ref bh, .ref lg, .int lgd, .ref sh, .ref vh])), (ch, .inr (0, [.ref ca, .int ccc, .int cac, .int cfc, .int clc])), (ca, .inl (cI, 10, .inl cf)), (bh, .inr (0, [.ref ba, .int bcc, .int bac, .int bfc, .int blc])), (ba, .inl (cI, 10, .inl bf')), (lg, .inl (cI, 12, .inl lgf)), (sh, .inr (2, [.ref sa, .int cnt, .int call])), (sa, .inl (cI, 12, .inl swf)), (vh, .inr (3, [.ref va])), (va, .inl (cI, 12, .inl fnf)), (qk, .inl (cI, 12, .inl fk)), (qb, .inl (cI, 12, .inl fb)), (qg, .inl (cI, 3, .inl fg))] H := hP
                have hD : va_D A [(xh, .inr (4, [.ref ch, .ref bh, .ref lg, .int lgd, .ref sh, .ref vh])), (ch, .inr (0, [.ref ca, .int ccc, .int cac, .int cfc, .int clc])), (ca, .inl (cI, 10, .inl cf)), (bh, .inr (0, [.ref ba, .int bcc, .int bac, .int bfc, .int blc])), (ba, .inl (cI, 10, .inl bf')), (lg, .inl (cI, 12, .inl lgf)), (sh, .inr (2, [.ref sa, .int cnt, .int call])), (sa, .inl (cI, 12, .inl swf)), (vh, .inr (3, [.ref va])), (va, .inl (cI, 12, .inl fnf)), (qk, .inl (cI, 12, .inl fk)), (qb, .inl (cI, 12, .inl fb)), (qg, .inl (cI, 3, .inl fg))] := hD
                obtain ⟨p_31, h⟩ := h
                have hPc := hP.sub (ws' := []) [] rfl
                have hDc := hD.sub (ws' := []) [] (by decide) rfl
                refine ff_callI (va_runS (As := [.int (gw (fg 0) (fg 1) (y_15 ||| (lco fb 0 (mN (fg 0) (fg 1)))) (zbit x6))]) (rest := []) ⟨hx, hb, hml, hown, hts⟩ (c_L_many l D cI H.size (gw (fg 0) (fg 1) (y_15 ||| (lco fb 0 (mN (fg 0) (fg 1)))) (zbit x6)) p_31) (va_cwS 1 hts gL_isBoard_L_many rfl rfl rfl (by decide +kernel) ⟨Nat.le_of_ble_eq_true rfl, Nat.le_of_ble_eq_true rfl⟩) (ff_preS hPc hK hDc hN) rfl rfl hl.1 rfl (lv_room (Nat.le_of_ble_eq_true rfl)) dL_isBoard_123 ⟨Nat.le_of_ble_eq_true rfl, Nat.le_of_ble_eq_true rfl⟩) hP hD hS hA [] [0, 1, 2, 3, 4, 5, 6, 7, 8, 9, 10, 11, 12] (wr := [(xh, .inr (4, [.ref ch, .ref bh, .ref lg, .int lgd, .ref sh, .ref vh])), (ch, .inr (0, [.ref ca, .int ccc, .int cac, .int cfc, .int clc])), (ca, .inl (cI, 10, .inl cf)), (bh, .inr (0, [.ref ba, .int bcc, .int bac, .int bfc, .int blc])), (ba, .inl (cI, 10, .inl bf')), (lg, .inl (cI, 12, .inl lgf)), (sh, .inr (2, [.ref sa, .int cnt, .int call])), (sa, .inl (cI, 12, .inl swf)), (vh, .inr (3, [.ref va])), (va, .inl (cI, 12, .inl fnf)), (qk, .inl (cI, 12, .inl fk)), (qb, .inl (cI, 12, .inl fb)), (qg, .inl (cI, 3, .inl fg))]) rfl rfl (by decide) (by decide) (fun r u H locs hw hP hD hS => ?_)
                replace hw := hw.symm
                subst hw
                have hP : va_P D vwCl [(xh, .inr (4, [.ref ch, .ref bh, .ref lg, .int lgd, .ref sh, .ref vh])), (ch, .inr (0, [.ref ca, .int ccc, .int cac, .int cfc, .int clc])), (ca, .inl (cI, 10, .inl cf)), (bh, .inr (0, [.ref ba, .int bcc, .int bac, .int bfc, .int blc])), (ba, .inl (cI, 10, .inl bf')), (lg, .inl (cI, 12, .inl lgf)), (sh, .inr (2, [.ref sa, .int cnt, .int call])), (sa, .inl (cI, 12, .inl swf)), (vh, .inr (3, [.ref va])), (va, .inl (cI, 12, .inl fnf)), (qk, .inl (cI, 12, .inl fk)), (qb, .inl (cI, 12, .inl fb)), (qg, .inl (cI, 3, .inl fg))] H := hP
                have hD : va_D A [(xh, .inr (4, [.ref ch, .ref bh, .ref lg, .int lgd, .ref sh, .ref vh])), (ch, .inr (0, [.ref ca, .int ccc, .int cac, .int cfc, .int clc])), (ca, .inl (cI, 10, .inl cf)), (bh, .inr (0, [.ref ba, .int bcc, .int bac, .int bfc, .int blc])), (ba, .inl (cI, 10, .inl bf')), (lg, .inl (cI, 12, .inl lgf)), (sh, .inr (2, [.ref sa, .int cnt, .int call])), (sa, .inl (cI, 12, .inl swf)), (vh, .inr (3, [.ref va])), (va, .inl (cI, 12, .inl fnf)), (qk, .inl (cI, 12, .inl fk)), (qb, .inl (cI, 12, .inl fb)), (qg, .inl (cI, 3, .inl fg))] := hD
                refine lv_topi (fun y_32 ey_32 => ?_)
                have h := h y_32 ey_32
                refine lv_istore (lv' := [(9, .int y_32), (8, .int 0), (7, .int y_15), (0, .ref xh), (1, .ref qb), (2, .ref qk), (3, .ref qg), (4, .int x4), (5, .int x5), (6, .int x6)]) hx hb dL_isBoard_126 hl (by decide) rfl (fun ls hl => ?_)
                exact ih.2.1 _ _ _ _ _ _ _ _ _ _ h.1 (Nat.lt_of_lt_of_le h.2 (Nat.le_of_lt_succ hmu)) (hP.sub [0, 1, 2, 3, 4, 5, 6, 7, 8, 9, 11, 10, 12] rfl) (hD.sub [0, 1, 2, 3, 4, 5, 6, 7, 8, 9, 11, 10, 12] (by decide) rfl) hS (lv_sub hl [3, 4, 5, 6, 7, 8, 9, 2, 1, 0] rfl)
              · have h := h.1 c_28
                refine lv_iconst (v := 0) hx hb dL_isBoard_104 (by decide) ?_
                refine lv_goto (tgt := 126) hx hb dL_isBoard_105 (by decide) ?_
                refine lv_istore (lv' := [(9, .int 0), (8, .int 0), (7, .int y_15), (0, .ref xh), (1, .ref qb), (2, .ref qk), (3, .ref qg), (4, .int x4), (5, .int x5), (6, .int x6)]) hx hb dL_isBoard_126 hl (by decide) rfl (fun ls hl => ?_)
                exact ih.2.1 _ _ _ _ _ _ _ _ _ _ h.1 (Nat.lt_of_lt_of_le h.2 (Nat.le_of_lt_succ hmu)) (hP.sub [0, 1, 2, 3, 4, 5, 6, 7, 8, 9, 11, 10, 12] rfl) (hD.sub [0, 1, 2, 3, 4, 5, 6, 7, 8, 9, 11, 10, 12] (by decide) rfl) hS (lv_sub hl [3, 4, 5, 6, 7, 8, 9, 2, 1, 0] rfl)
      · intro x4 x5 x6 x7 x8 x9 bf' H locs ls hI hmu hP hD hS hl
        have h := hv128 x4 x5 x6 x7 x8 x9 bf' hI
        unfold vs_L_isBoard_128 at h
        refine lv_aload_n hx hb dL_isBoard_128 rfl (lv_at hl 0 rfl) ?_
        refine lv_iload hx hb dL_isBoard_129 (lv_at hl 6 rfl) ?_
        obtain ⟨p_33, h⟩ := h
        have hPc := hP.sub (ws' := [(xh, .inr (4, [.ref ch, .ref bh, .ref lg, .int lgd, .ref sh, .ref vh])), (ch, .inr (0, [.ref ca, .int ccc, .int cac, .int cfc, .int clc])), (ca, .inl (cI, 10, .inl cf)), (bh, .inr (0, [.ref ba, .int bcc, .int bac, .int bfc, .int blc])), (ba, .inl (cI, 10, .inl bf')), (lg, .inl (cI, 12, .inl lgf)), (sh, .inr (2, [.ref sa, .int cnt, .int call])), (sa, .inl (cI, 12, .inl swf)), (vh, .inr (3, [.ref va])), (va, .inl (cI, 12, .inl fnf))]) [0, 1, 2, 3, 4, 5, 6, 7, 8, 9] rfl
        have hDc := hD.sub (ws' := [(xh, .inr (4, [.ref ch, .ref bh, .ref lg, .int lgd, .ref sh, .ref vh])), (ch, .inr (0, [.ref ca, .int ccc, .int cac, .int cfc, .int clc])), (ca, .inl (cI, 10, .inl cf)), (bh, .inr (0, [.ref ba, .int bcc, .int bac, .int bfc, .int blc])), (ba, .inl (cI, 10, .inl bf')), (lg, .inl (cI, 12, .inl lgf)), (sh, .inr (2, [.ref sa, .int cnt, .int call])), (sa, .inl (cI, 12, .inl swf)), (vh, .inr (3, [.ref va])), (va, .inl (cI, 12, .inl fnf))]) [0, 1, 2, 3, 4, 5, 6, 7, 8, 9] (by decide) rfl
        refine ff_callI (va_runV (As := [.int x6]) (rest := []) ⟨hx, hb, hml, hown, hts⟩ (c_X4_atN l D cI xh ch ca bh ba lg sh sa vh va H.size lgd ccc cac cfc clc cf bcc bac bfc blc bf' lgf cnt call swf fnf x6 p_33) (cwV 1 hts gL_isBoard_X4_at rfl rfl rfl (by decide +kernel) ⟨Nat.le_of_ble_eq_true rfl, Nat.le_of_ble_eq_true rfl⟩) (ff_preV (q := (RX4, TX4, 6)) (ci := 4) (q0 := 0) hPc hK hDc hN rfl rfl) rfl rfl hl.1 rfl (lv_room (Nat.le_of_ble_eq_true rfl)) dL_isBoard_131 ⟨Nat.le_of_ble_eq_true rfl, Nat.le_of_ble_eq_true rfl⟩) hP hD hS hA [0, 1, 2, 3, 4, 5, 6, 7, 8, 9] [10, 11, 12] (wr := [(qb, .inl (cI, 12, .inl fb)), (qk, .inl (cI, 12, .inl fk)), (qg, .inl (cI, 3, .inl fg))]) rfl rfl (by decide) (by decide) (fun r u H locs hw hP hD hS => ?_)
        replace hw := hw.symm
        subst hw
        have hP : va_P D vwCl [(qb, .inl (cI, 12, .inl fb)), (qk, .inl (cI, 12, .inl fk)), (qg, .inl (cI, 3, .inl fg)), (xh, .inr (4, [.ref ch, .ref bh, .ref lg, .int lgd, .ref sh, .ref vh])), (ch, .inr (0, [.ref ca, .int ccc, .int cac, .int cfc, .int clc])), (ca, .inl (cI, 10, .inl cf)), (bh, .inr (0, [.ref ba, .int bcc, .int bac, .int bfc, .int blc])), (ba, .inl (cI, 10, .inl bf')), (lg, .inl (cI, 12, .inl lgf)), (sh, .inr (2, [.ref sa, .int cnt, .int call])), (sa, .inl (cI, 12, .inl swf)), (vh, .inr (3, [.ref va])), (va, .inl (cI, 12, .inl fnf))] H := hP
        have hD : va_D A [(qb, .inl (cI, 12, .inl fb)), (qk, .inl (cI, 12, .inl fk)), (qg, .inl (cI, 3, .inl fg)), (xh, .inr (4, [.ref ch, .ref bh, .ref lg, .int lgd, .ref sh, .ref vh])), (ch, .inr (0, [.ref ca, .int ccc, .int cac, .int cfc, .int clc])), (ca, .inl (cI, 10, .inl cf)), (bh, .inr (0, [.ref ba, .int bcc, .int bac, .int bfc, .int blc])), (ba, .inl (cI, 10, .inl bf')), (lg, .inl (cI, 12, .inl lgf)), (sh, .inr (2, [.ref sa, .int cnt, .int call])), (sa, .inl (cI, 12, .inl swf)), (vh, .inr (3, [.ref va])), (va, .inl (cI, 12, .inl fnf))] := hD
        refine lv_aload_n hx hb dL_isBoard_134 rfl (lv_at hl 1 rfl) ?_
        refine lv_iload hx hb dL_isBoard_135 (lv_at hl 6 rfl) ?_
        obtain ⟨i_34, h⟩ := h
        refine va_iald hx hb hK hP 0 0 rfl rfl i_34 dL_isBoard_137 ?_
        refine lv_icmp_ne (tgt := 189) hx hb dL_isBoard_138 (by decide) (fun c_35 => ?_) (fun c_35 => ?_)
        · have h := h.2 c_35
          refine lv_iconst (v := 0) hx hb dL_isBoard_189 (by decide) ?_
          refine lv_istore (lv' := [(4, .int 0), (0, .ref xh), (1, .ref qb), (2, .ref qk), (3, .ref qg), (5, .int x5), (6, .int x6), (7, .int x7), (8, .int x8), (9, .int x9)]) hx hb dL_isBoard_190 hl (by decide) rfl (fun ls hl => ?_)
          exact ih.2.2 _ _ _ _ _ _ _ _ _ _ h.1 (Nat.lt_of_lt_of_le h.2 (Nat.le_of_lt_succ hmu)) (hP.sub [3, 4, 5, 6, 7, 8, 9, 10, 11, 12, 0, 1, 2] rfl) (hD.sub [3, 4, 5, 6, 7, 8, 9, 10, 11, 12, 0, 1, 2] (by decide) rfl) hS (lv_sub hl [1, 2, 3, 4, 0, 5, 6, 7, 8, 9] rfl)
        · have h := h.1 c_35
          refine lv_aload_n hx hb dL_isBoard_141 rfl (lv_at hl 0 rfl) ?_
          refine lv_iload hx hb dL_isBoard_142 (lv_at hl 6 rfl) ?_
          obtain ⟨p_36, h⟩ := h
          have hPc := hP.sub (ws' := [(xh, .inr (4, [.ref ch, .ref bh, .ref lg, .int lgd, .ref sh, .ref vh])), (ch, .inr (0, [.ref ca, .int ccc, .int cac, .int cfc, .int clc])), (ca, .inl (cI, 10, .inl cf)), (bh, .inr (0, [.ref ba, .int bcc, .int bac, .int bfc, .int blc])), (ba, .inl (cI, 10, .inl bf')), (lg, .inl (cI, 12, .inl lgf)), (sh, .inr (2, [.ref sa, .int cnt, .int call])), (sa, .inl (cI, 12, .inl swf)), (vh, .inr (3, [.ref va])), (va, .inl (cI, 12, .inl fnf))]) [3, 4, 5, 6, 7, 8, 9, 10, 11, 12] rfl
          have hDc := hD.sub (ws' := [(xh, .inr (4, [.ref ch, .ref bh, .ref lg, .int lgd, .ref sh, .ref vh])), (ch, .inr (0, [.ref ca, .int ccc, .int cac, .int cfc, .int clc])), (ca, .inl (cI, 10, .inl cf)), (bh, .inr (0, [.ref ba, .int bcc, .int bac, .int bfc, .int blc])), (ba, .inl (cI, 10, .inl bf')), (lg, .inl (cI, 12, .inl lgf)), (sh, .inr (2, [.ref sa, .int cnt, .int call])), (sa, .inl (cI, 12, .inl swf)), (vh, .inr (3, [.ref va])), (va, .inl (cI, 12, .inl fnf))]) [3, 4, 5, 6, 7, 8, 9, 10, 11, 12] (by decide) rfl
          refine ff_callI (va_runV (As := [.int x6]) (rest := []) ⟨hx, hb, hml, hown, hts⟩ (c_X4_isClueN l D cI xh ch ca bh ba lg sh sa vh va H.size lgd ccc cac cfc clc cf bcc bac bfc blc bf' lgf cnt call swf fnf x6 p_36) (cwV 1 hts gL_isBoard_X4_isClue rfl rfl rfl (by decide +kernel) ⟨Nat.le_of_ble_eq_true rfl, Nat.le_of_ble_eq_true rfl⟩) (ff_preV (q := (RX4, TX4, 6)) (ci := 4) (q0 := 0) hPc hK hDc hN rfl rfl) rfl rfl hl.1 rfl (lv_room (Nat.le_of_ble_eq_true rfl)) dL_isBoard_144 ⟨Nat.le_of_ble_eq_true rfl, Nat.le_of_ble_eq_true rfl⟩) hP hD hS hA [3, 4, 5, 6, 7, 8, 9, 10, 11, 12] [0, 1, 2] (wr := [(qb, .inl (cI, 12, .inl fb)), (qk, .inl (cI, 12, .inl fk)), (qg, .inl (cI, 3, .inl fg))]) rfl rfl (by decide) (by decide) (fun r u H locs hw hP hD hS => ?_)
          replace hw := hw.symm
          subst hw
          have hP : va_P D vwCl [(qb, .inl (cI, 12, .inl fb)), (qk, .inl (cI, 12, .inl fk)), (qg, .inl (cI, 3, .inl fg)), (xh, .inr (4, [.ref ch, .ref bh, .ref lg, .int lgd, .ref sh, .ref vh])), (ch, .inr (0, [.ref ca, .int ccc, .int cac, .int cfc, .int clc])), (ca, .inl (cI, 10, .inl cf)), (bh, .inr (0, [.ref ba, .int bcc, .int bac, .int bfc, .int blc])), (ba, .inl (cI, 10, .inl bf')), (lg, .inl (cI, 12, .inl lgf)), (sh, .inr (2, [.ref sa, .int cnt, .int call])), (sa, .inl (cI, 12, .inl swf)), (vh, .inr (3, [.ref va])), (va, .inl (cI, 12, .inl fnf))] H := hP
          have hD : va_D A [(qb, .inl (cI, 12, .inl fb)), (qk, .inl (cI, 12, .inl fk)), (qg, .inl (cI, 3, .inl fg)), (xh, .inr (4, [.ref ch, .ref bh, .ref lg, .int lgd, .ref sh, .ref vh])), (ch, .inr (0, [.ref ca, .int ccc, .int cac, .int cfc, .int clc])), (ca, .inl (cI, 10, .inl cf)), (bh, .inr (0, [.ref ba, .int bcc, .int bac, .int bfc, .int blc])), (ba, .inl (cI, 10, .inl bf')), (lg, .inl (cI, 12, .inl lgf)), (sh, .inr (2, [.ref sa, .int cnt, .int call])), (sa, .inl (cI, 12, .inl swf)), (vh, .inr (3, [.ref va])), (va, .inl (cI, 12, .inl fnf))] := hD
          refine lv_aload_n hx hb dL_isBoard_147 rfl (lv_at hl 2 rfl) ?_
          refine lv_iload hx hb dL_isBoard_148 (lv_at hl 6 rfl) ?_
          obtain ⟨i_37, h⟩ := h
          refine va_iald hx hb hK hP 1 0 rfl rfl i_37 dL_isBoard_150 ?_
          refine lv_iconst (v := 1) hx hb dL_isBoard_151 (by decide) ?_
          refine lv_icmp_ne (tgt := 159) hx hb dL_isBoard_152 (by decide) (fun c_38 => ?_) (fun c_38 => ?_)
          · have h := h.2 c_38
            refine lv_iconst (v := 0) hx hb dL_isBoard_159 (by decide) ?_
            refine lv_icmp_ne (tgt := 189) hx hb dL_isBoard_160 (by decide) (fun c_39 => ?_) (fun c_39 => ?_)
            · have h := h.2 c_39
              refine lv_iconst (v := 0) hx hb dL_isBoard_189 (by decide) ?_
              refine lv_istore (lv' := [(4, .int 0), (0, .ref xh), (1, .ref qb), (2, .ref qk), (3, .ref qg), (5, .int x5), (6, .int x6), (7, .int x7), (8, .int x8), (9, .int x9)]) hx hb dL_isBoard_190 hl (by decide) rfl (fun ls hl => ?_)
              exact ih.2.2 _ _ _ _ _ _ _ _ _ _ h.1 (Nat.lt_of_lt_of_le h.2 (Nat.le_of_lt_succ hmu)) (hP.sub [3, 4, 5, 6, 7, 8, 9, 10, 11, 12, 0, 1, 2] rfl) (hD.sub [3, 4, 5, 6, 7, 8, 9, 10, 11, 12, 0, 1, 2] (by decide) rfl) hS (lv_sub hl [1, 2, 3, 4, 0, 5, 6, 7, 8, 9] rfl)
            · have h := h.1 c_39
              refine lv_aload_n hx hb dL_isBoard_163 rfl (lv_at hl 0 rfl) ?_
              refine lv_iload hx hb dL_isBoard_164 (lv_at hl 6 rfl) ?_
              obtain ⟨p_40, h⟩ := h
              have hPc := hP.sub (ws' := [(xh, .inr (4, [.ref ch, .ref bh, .ref lg, .int lgd, .ref sh, .ref vh])), (ch, .inr (0, [.ref ca, .int ccc, .int cac, .int cfc, .int clc])), (ca, .inl (cI, 10, .inl cf)), (bh, .inr (0, [.ref ba, .int bcc, .int bac, .int bfc, .int blc])), (ba, .inl (cI, 10, .inl bf')), (lg, .inl (cI, 12, .inl lgf)), (sh, .inr (2, [.ref sa, .int cnt, .int call])), (sa, .inl (cI, 12, .inl swf)), (vh, .inr (3, [.ref va])), (va, .inl (cI, 12, .inl fnf))]) [3, 4, 5, 6, 7, 8, 9, 10, 11, 12] rfl
              have hDc := hD.sub (ws' := [(xh, .inr (4, [.ref ch, .ref bh, .ref lg, .int lgd, .ref sh, .ref vh])), (ch, .inr (0, [.ref ca, .int ccc, .int cac, .int cfc, .int clc])), (ca, .inl (cI, 10, .inl cf)), (bh, .inr (0, [.ref ba, .int bcc, .int bac, .int bfc, .int blc])), (ba, .inl (cI, 10, .inl bf')), (lg, .inl (cI, 12, .inl lgf)), (sh, .inr (2, [.ref sa, .int cnt, .int call])), (sa, .inl (cI, 12, .inl swf)), (vh, .inr (3, [.ref va])), (va, .inl (cI, 12, .inl fnf))]) [3, 4, 5, 6, 7, 8, 9, 10, 11, 12] (by decide) rfl
              refine ff_callI (va_runV (As := [.int x6]) (rest := []) ⟨hx, hb, hml, hown, hts⟩ (c_X4_sizeN l D cI xh ch ca bh ba lg sh sa vh va H.size lgd ccc cac cfc clc cf bcc bac bfc blc bf' lgf cnt call swf fnf x6 p_40) (cwV 1 hts gL_isBoard_X4_size rfl rfl rfl (by decide +kernel) ⟨Nat.le_of_ble_eq_true rfl, Nat.le_of_ble_eq_true rfl⟩) (ff_preV (q := (RX4, TX4, 6)) (ci := 4) (q0 := 0) hPc hK hDc hN rfl rfl) rfl rfl hl.1 rfl (lv_room (Nat.le_of_ble_eq_true rfl)) dL_isBoard_166 ⟨Nat.le_of_ble_eq_true rfl, Nat.le_of_ble_eq_true rfl⟩) hP hD hS hA [3, 4, 5, 6, 7, 8, 9, 10, 11, 12] [0, 1, 2] (wr := [(qb, .inl (cI, 12, .inl fb)), (qk, .inl (cI, 12, .inl fk)), (qg, .inl (cI, 3, .inl fg))]) rfl rfl (by decide) (by decide) (fun r u H locs hw hP hD hS => ?_)
              replace hw := hw.symm
              subst hw
              have hP : va_P D vwCl [(qb, .inl (cI, 12, .inl fb)), (qk, .inl (cI, 12, .inl fk)), (qg, .inl (cI, 3, .inl fg)), (xh, .inr (4, [.ref ch, .ref bh, .ref lg, .int lgd, .ref sh, .ref vh])), (ch, .inr (0, [.ref ca, .int ccc, .int cac, .int cfc, .int clc])), (ca, .inl (cI, 10, .inl cf)), (bh, .inr (0, [.ref ba, .int bcc, .int bac, .int bfc, .int blc])), (ba, .inl (cI, 10, .inl bf')), (lg, .inl (cI, 12, .inl lgf)), (sh, .inr (2, [.ref sa, .int cnt, .int call])), (sa, .inl (cI, 12, .inl swf)), (vh, .inr (3, [.ref va])), (va, .inl (cI, 12, .inl fnf))] H := hP
              have hD : va_D A [(qb, .inl (cI, 12, .inl fb)), (qk, .inl (cI, 12, .inl fk)), (qg, .inl (cI, 3, .inl fg)), (xh, .inr (4, [.ref ch, .ref bh, .ref lg, .int lgd, .ref sh, .ref vh])), (ch, .inr (0, [.ref ca, .int ccc, .int cac, .int cfc, .int clc])), (ca, .inl (cI, 10, .inl cf)), (bh, .inr (0, [.ref ba, .int bcc, .int bac, .int bfc, .int blc])), (ba, .inl (cI, 10, .inl bf')), (lg, .inl (cI, 12, .inl lgf)), (sh, .inr (2, [.ref sa, .int cnt, .int call])), (sa, .inl (cI, 12, .inl swf)), (vh, .inr (3, [.ref va])), (va, .inl (cI, 12, .inl fnf))] := hD
              refine lv_iload hx hb dL_isBoard_169 (lv_at hl 8 rfl) ?_
              refine lv_icmp_ne (tgt := 189) hx hb dL_isBoard_171 (by decide) (fun c_41 => ?_) (fun c_41 => ?_)
              · have h := h.2 c_41
                refine lv_iconst (v := 0) hx hb dL_isBoard_189 (by decide) ?_
                refine lv_istore (lv' := [(4, .int 0), (0, .ref xh), (1, .ref qb), (2, .ref qk), (3, .ref qg), (5, .int x5), (6, .int x6), (7, .int x7), (8, .int x8), (9, .int x9)]) hx hb dL_isBoard_190 hl (by decide) rfl (fun ls hl => ?_)
                exact ih.2.2 _ _ _ _ _ _ _ _ _ _ h.1 (Nat.lt_of_lt_of_le h.2 (Nat.le_of_lt_succ hmu)) (hP.sub [3, 4, 5, 6, 7, 8, 9, 10, 11, 12, 0, 1, 2] rfl) (hD.sub [3, 4, 5, 6, 7, 8, 9, 10, 11, 12, 0, 1, 2] (by decide) rfl) hS (lv_sub hl [1, 2, 3, 4, 0, 5, 6, 7, 8, 9] rfl)
              · have h := h.1 c_41
                refine lv_aload_n hx hb dL_isBoard_174 rfl (lv_at hl 0 rfl) ?_
                refine lv_iload hx hb dL_isBoard_175 (lv_at hl 6 rfl) ?_
                obtain ⟨p_42, h⟩ := h
                have hPc := hP.sub (ws' := [(xh, .inr (4, [.ref ch, .ref bh, .ref lg, .int lgd, .ref sh, .ref vh])), (ch, .inr (0, [.ref ca, .int ccc, .int cac, .int cfc, .int clc])), (ca, .inl (cI, 10, .inl cf)), (bh, .inr (0, [.ref ba, .int bcc, .int bac, .int bfc, .int blc])), (ba, .inl (cI, 10, .inl bf')), (lg, .inl (cI, 12, .inl lgf)), (sh, .inr (2, [.ref sa, .int cnt, .int call])), (sa, .inl (cI, 12, .inl swf)), (vh, .inr (3, [.ref va])), (va, .inl (cI, 12, .inl fnf))]) [3, 4, 5, 6, 7, 8, 9, 10, 11, 12] rfl
                have hDc := hD.sub (ws' := [(xh, .inr (4, [.ref ch, .ref bh, .ref lg, .int lgd, .ref sh, .ref vh])), (ch, .inr (0, [.ref ca, .int ccc, .int cac, .int cfc, .int clc])), (ca, .inl (cI, 10, .inl cf)), (bh, .inr (0, [.ref ba, .int bcc, .int bac, .int bfc, .int blc])), (ba, .inl (cI, 10, .inl bf')), (lg, .inl (cI, 12, .inl lgf)), (sh, .inr (2, [.ref sa, .int cnt, .int call])), (sa, .inl (cI, 12, .inl swf)), (vh, .inr (3, [.ref va])), (va, .inl (cI, 12, .inl fnf))]) [3, 4, 5, 6, 7, 8, 9, 10, 11, 12] (by decide) rfl
                refine ff_callI (va_runV (As := [.int x6]) (rest := []) ⟨hx, hb, hml, hown, hts⟩ (c_X4_roomN l D cI xh ch ca bh ba lg sh sa vh va H.size lgd ccc cac cfc clc cf bcc bac bfc blc bf' lgf cnt call swf fnf x6 p_42) (cwV 1 hts gL_isBoard_X4_room rfl rfl rfl (by decide +kernel) ⟨Nat.le_of_ble_eq_true rfl, Nat.le_of_ble_eq_true rfl⟩) (ff_preV (q := (RX4, TX4, 6)) (ci := 4) (q0 := 0) hPc hK hDc hN rfl rfl) rfl rfl hl.1 rfl (lv_room (Nat.le_of_ble_eq_true rfl)) dL_isBoard_177 ⟨Nat.le_of_ble_eq_true rfl, Nat.le_of_ble_eq_true rfl⟩) hP hD hS hA [3, 4, 5, 6, 7, 8, 9, 10, 11, 12] [0, 1, 2] (wr := [(qb, .inl (cI, 12, .inl fb)), (qk, .inl (cI, 12, .inl fk)), (qg, .inl (cI, 3, .inl fg))]) rfl rfl (by decide) (by decide) (fun r u H locs hw hP hD hS => ?_)
                replace hw := hw.symm
                subst hw
                have hP : va_P D vwCl [(qb, .inl (cI, 12, .inl fb)), (qk, .inl (cI, 12, .inl fk)), (qg, .inl (cI, 3, .inl fg)), (xh, .inr (4, [.ref ch, .ref bh, .ref lg, .int lgd, .ref sh, .ref vh])), (ch, .inr (0, [.ref ca, .int ccc, .int cac, .int cfc, .int clc])), (ca, .inl (cI, 10, .inl cf)), (bh, .inr (0, [.ref ba, .int bcc, .int bac, .int bfc, .int blc])), (ba, .inl (cI, 10, .inl bf')), (lg, .inl (cI, 12, .inl lgf)), (sh, .inr (2, [.ref sa, .int cnt, .int call])), (sa, .inl (cI, 12, .inl swf)), (vh, .inr (3, [.ref va])), (va, .inl (cI, 12, .inl fnf))] H := hP
                have hD : va_D A [(qb, .inl (cI, 12, .inl fb)), (qk, .inl (cI, 12, .inl fk)), (qg, .inl (cI, 3, .inl fg)), (xh, .inr (4, [.ref ch, .ref bh, .ref lg, .int lgd, .ref sh, .ref vh])), (ch, .inr (0, [.ref ca, .int ccc, .int cac, .int cfc, .int clc])), (ca, .inl (cI, 10, .inl cf)), (bh, .inr (0, [.ref ba, .int bcc, .int bac, .int bfc, .int blc])), (ba, .inl (cI, 10, .inl bf')), (lg, .inl (cI, 12, .inl lgf)), (sh, .inr (2, [.ref sa, .int cnt, .int call])), (sa, .inl (cI, 12, .inl swf)), (vh, .inr (3, [.ref va])), (va, .inl (cI, 12, .inl fnf))] := hD
                refine lv_iload hx hb dL_isBoard_180 (lv_at hl 9 rfl) ?_
                refine lv_icmp_ne (tgt := 189) hx hb dL_isBoard_182 (by decide) (fun c_43 => ?_) (fun c_43 => ?_)
                · have h := h.2 c_43
                  refine lv_iconst (v := 0) hx hb dL_isBoard_189 (by decide) ?_
                  refine lv_istore (lv' := [(4, .int 0), (0, .ref xh), (1, .ref qb), (2, .ref qk), (3, .ref qg), (5, .int x5), (6, .int x6), (7, .int x7), (8, .int x8), (9, .int x9)]) hx hb dL_isBoard_190 hl (by decide) rfl (fun ls hl => ?_)
                  exact ih.2.2 _ _ _ _ _ _ _ _ _ _ h.1 (Nat.lt_of_lt_of_le h.2 (Nat.le_of_lt_succ hmu)) (hP.sub [3, 4, 5, 6, 7, 8, 9, 10, 11, 12, 0, 1, 2] rfl) (hD.sub [3, 4, 5, 6, 7, 8, 9, 10, 11, 12, 0, 1, 2] (by decide) rfl) hS (lv_sub hl [1, 2, 3, 4, 0, 5, 6, 7, 8, 9] rfl)
                · have h := h.1 c_43
                  refine lv_iconst (v := 1) hx hb dL_isBoard_185 (by decide) ?_
                  refine lv_goto (tgt := 190) hx hb dL_isBoard_186 (by decide) ?_
                  refine lv_istore (lv' := [(4, .int 1), (0, .ref xh), (1, .ref qb), (2, .ref qk), (3, .ref qg), (5, .int x5), (6, .int x6), (7, .int x7), (8, .int x8), (9, .int x9)]) hx hb dL_isBoard_190 hl (by decide) rfl (fun ls hl => ?_)
                  exact ih.2.2 _ _ _ _ _ _ _ _ _ _ h.1 (Nat.lt_of_lt_of_le h.2 (Nat.le_of_lt_succ hmu)) (hP.sub [3, 4, 5, 6, 7, 8, 9, 10, 11, 12, 0, 1, 2] rfl) (hD.sub [3, 4, 5, 6, 7, 8, 9, 10, 11, 12, 0, 1, 2] (by decide) rfl) hS (lv_sub hl [1, 2, 3, 4, 0, 5, 6, 7, 8, 9] rfl)
          · have h := h.1 c_38
            refine lv_iconst (v := 1) hx hb dL_isBoard_155 (by decide) ?_
            refine lv_goto (tgt := 160) hx hb dL_isBoard_156 (by decide) ?_
            refine lv_icmp_ne (tgt := 189) hx hb dL_isBoard_160 (by decide) (fun c_44 => ?_) (fun c_44 => ?_)
            · have h := h.2 c_44
              refine lv_iconst (v := 0) hx hb dL_isBoard_189 (by decide) ?_
              refine lv_istore (lv' := [(4, .int 0), (0, .ref xh), (1, .ref qb), (2, .ref qk), (3, .ref qg), (5, .int x5), (6, .int x6), (7, .int x7), (8, .int x8), (9, .int x9)]) hx hb dL_isBoard_190 hl (by decide) rfl (fun ls hl => ?_)
              exact ih.2.2 _ _ _ _ _ _ _ _ _ _ h.1 (Nat.lt_of_lt_of_le h.2 (Nat.le_of_lt_succ hmu)) (hP.sub [3, 4, 5, 6, 7, 8, 9, 10, 11, 12, 0, 1, 2] rfl) (hD.sub [3, 4, 5, 6, 7, 8, 9, 10, 11, 12, 0, 1, 2] (by decide) rfl) hS (lv_sub hl [1, 2, 3, 4, 0, 5, 6, 7, 8, 9] rfl)
            · have h := h.1 c_44
              refine lv_aload_n hx hb dL_isBoard_163 rfl (lv_at hl 0 rfl) ?_
              refine lv_iload hx hb dL_isBoard_164 (lv_at hl 6 rfl) ?_
              obtain ⟨p_45, h⟩ := h
              have hPc := hP.sub (ws' := [(xh, .inr (4, [.ref ch, .ref bh, .ref lg, .int lgd, .ref sh, .ref vh])), (ch, .inr (0, [.ref ca, .int ccc, .int cac, .int cfc, .int clc])), (ca, .inl (cI, 10, .inl cf)), (bh, .inr (0, [.ref ba, .int bcc, .int bac, .int bfc, .int blc])), (ba, .inl (cI, 10, .inl bf')), (lg, .inl (cI, 12, .inl lgf)), (sh, .inr (2, [.ref sa, .int cnt, .int call])), (sa, .inl (cI, 12, .inl swf)), (vh, .inr (3, [.ref va])), (va, .inl (cI, 12, .inl fnf))]) [3, 4, 5, 6, 7, 8, 9, 10, 11, 12] rfl
              have hDc := hD.sub (ws' := [(xh, .inr (4, [.ref ch, .ref bh, .ref lg, .int lgd, .ref sh, .ref vh])), (ch, .inr (0, [.ref ca, .int ccc, .int cac, .int cfc, .int clc])), (ca, .inl (cI, 10, .inl cf)), (bh, .inr (0, [.ref ba, .int bcc, .int bac, .int bfc, .int blc])), (ba, .inl (cI, 10, .inl bf')), (lg, .inl (cI, 12, .inl lgf)), (sh, .inr (2, [.ref sa, .int cnt, .int call])), (sa, .inl (cI, 12, .inl swf)), (vh, .inr (3, [.ref va])), (va, .inl (cI, 12, .inl fnf))]) [3, 4, 5, 6, 7, 8, 9, 10, 11, 12] (by decide) rfl
              refine ff_callI (va_runV (As := [.int x6]) (rest := []) ⟨hx, hb, hml, hown, hts⟩ (c_X4_sizeN l D cI xh ch ca bh ba lg sh sa vh va H.size lgd ccc cac cfc clc cf bcc bac bfc blc bf' lgf cnt call swf fnf x6 p_45) (cwV 1 hts gL_isBoard_X4_size rfl rfl rfl (by decide +kernel) ⟨Nat.le_of_ble_eq_true rfl, Nat.le_of_ble_eq_true rfl⟩) (ff_preV (q := (RX4, TX4, 6)) (ci := 4) (q0 := 0) hPc hK hDc hN rfl rfl) rfl rfl hl.1 rfl (lv_room (Nat.le_of_ble_eq_true rfl)) dL_isBoard_166 ⟨Nat.le_of_ble_eq_true rfl, Nat.le_of_ble_eq_true rfl⟩) hP hD hS hA [3, 4, 5, 6, 7, 8, 9, 10, 11, 12] [0, 1, 2] (wr := [(qb, .inl (cI, 12, .inl fb)), (qk, .inl (cI, 12, .inl fk)), (qg, .inl (cI, 3, .inl fg))]) rfl rfl (by decide) (by decide) (fun r u H locs hw hP hD hS => ?_)
              replace hw := hw.symm
              subst hw
              have hP : va_P D vwCl [(qb, .inl (cI, 12, .inl fb)), (qk, .inl (cI, 12, .inl fk)), (qg, .inl (cI, 3, .inl fg)), (xh, .inr (4, [.ref ch, .ref bh, .ref lg, .int lgd, .ref sh, .ref vh])), (ch, .inr (0, [.ref ca, .int ccc, .int cac, .int cfc, .int clc])), (ca, .inl (cI, 10, .inl cf)), (bh, .inr (0, [.ref ba, .int bcc, .int bac, .int bfc, .int blc])), (ba, .inl (cI, 10, .inl bf')), (lg, .inl (cI, 12, .inl lgf)), (sh, .inr (2, [.ref sa, .int cnt, .int call])), (sa, .inl (cI, 12, .inl swf)), (vh, .inr (3, [.ref va])), (va, .inl (cI, 12, .inl fnf))] H := hP
              have hD : va_D A [(qb, .inl (cI, 12, .inl fb)), (qk, .inl (cI, 12, .inl fk)), (qg, .inl (cI, 3, .inl fg)), (xh, .inr (4, [.ref ch, .ref bh, .ref lg, .int lgd, .ref sh, .ref vh])), (ch, .inr (0, [.ref ca, .int ccc, .int cac, .int cfc, .int clc])), (ca, .inl (cI, 10, .inl cf)), (bh, .inr (0, [.ref ba, .int bcc, .int bac, .int bfc, .int blc])), (ba, .inl (cI, 10, .inl bf')), (lg, .inl (cI, 12, .inl lgf)), (sh, .inr (2, [.ref sa, .int cnt, .int call])), (sa, .inl (cI, 12, .inl swf)), (vh, .inr (3, [.ref va])), (va, .inl (cI, 12, .inl fnf))] := hD
              refine lv_iload hx hb dL_isBoard_169 (lv_at hl 8 rfl) ?_
              refine lv_icmp_ne (tgt := 189) hx hb dL_isBoard_171 (by decide) (fun c_46 => ?_) (fun c_46 => ?_)
              · have h := h.2 c_46
                refine lv_iconst (v := 0) hx hb dL_isBoard_189 (by decide) ?_
                refine lv_istore (lv' := [(4, .int 0), (0, .ref xh), (1, .ref qb), (2, .ref qk), (3, .ref qg), (5, .int x5), (6, .int x6), (7, .int x7), (8, .int x8), (9, .int x9)]) hx hb dL_isBoard_190 hl (by decide) rfl (fun ls hl => ?_)
                exact ih.2.2 _ _ _ _ _ _ _ _ _ _ h.1 (Nat.lt_of_lt_of_le h.2 (Nat.le_of_lt_succ hmu)) (hP.sub [3, 4, 5, 6, 7, 8, 9, 10, 11, 12, 0, 1, 2] rfl) (hD.sub [3, 4, 5, 6, 7, 8, 9, 10, 11, 12, 0, 1, 2] (by decide) rfl) hS (lv_sub hl [1, 2, 3, 4, 0, 5, 6, 7, 8, 9] rfl)
              · have h := h.1 c_46
                refine lv_aload_n hx hb dL_isBoard_174 rfl (lv_at hl 0 rfl) ?_
                refine lv_iload hx hb dL_isBoard_175 (lv_at hl 6 rfl) ?_
                obtain ⟨p_47, h⟩ := h
                have hPc := hP.sub (ws' := [(xh, .inr (4, [.ref ch, .ref bh, .ref lg, .int lgd, .ref sh, .ref vh])), (ch, .inr (0, [.ref ca, .int ccc, .int cac, .int cfc, .int clc])), (ca, .inl (cI, 10, .inl cf)), (bh, .inr (0, [.ref ba, .int bcc, .int bac, .int bfc, .int blc])), (ba, .inl (cI, 10, .inl bf')), (lg, .inl (cI, 12, .inl lgf)), (sh, .inr (2, [.ref sa, .int cnt, .int call])), (sa, .inl (cI, 12, .inl swf)), (vh, .inr (3, [.ref va])), (va, .inl (cI, 12, .inl fnf))]) [3, 4, 5, 6, 7, 8, 9, 10, 11, 12] rfl
                have hDc := hD.sub (ws' := [(xh, .inr (4, [.ref ch, .ref bh, .ref lg, .int lgd, .ref sh, .ref vh])), (ch, .inr (0, [.ref ca, .int ccc, .int cac, .int cfc, .int clc])), (ca, .inl (cI, 10, .inl cf)), (bh, .inr (0, [.ref ba, .int bcc, .int bac, .int bfc, .int blc])), (ba, .inl (cI, 10, .inl bf')), (lg, .inl (cI, 12, .inl lgf)), (sh, .inr (2, [.ref sa, .int cnt, .int call])), (sa, .inl (cI, 12, .inl swf)), (vh, .inr (3, [.ref va])), (va, .inl (cI, 12, .inl fnf))]) [3, 4, 5, 6, 7, 8, 9, 10, 11, 12] (by decide) rfl
                refine ff_callI (va_runV (As := [.int x6]) (rest := []) ⟨hx, hb, hml, hown, hts⟩ (c_X4_roomN l D cI xh ch ca bh ba lg sh sa vh va H.size lgd ccc cac cfc clc cf bcc bac bfc blc bf' lgf cnt call swf fnf x6 p_47) (cwV 1 hts gL_isBoard_X4_room rfl rfl rfl (by decide +kernel) ⟨Nat.le_of_ble_eq_true rfl, Nat.le_of_ble_eq_true rfl⟩) (ff_preV (q := (RX4, TX4, 6)) (ci := 4) (q0 := 0) hPc hK hDc hN rfl rfl) rfl rfl hl.1 rfl (lv_room (Nat.le_of_ble_eq_true rfl)) dL_isBoard_177 ⟨Nat.le_of_ble_eq_true rfl, Nat.le_of_ble_eq_true rfl⟩) hP hD hS hA [3, 4, 5, 6, 7, 8, 9, 10, 11, 12] [0, 1, 2] (wr := [(qb, .inl (cI, 12, .inl fb)), (qk, .inl (cI, 12, .inl fk)), (qg, .inl (cI, 3, .inl fg))]) rfl rfl (by decide) (by decide) (fun r u H locs hw hP hD hS => ?_)
                replace hw := hw.symm
                subst hw
                have hP : va_P D vwCl [(qb, .inl (cI, 12, .inl fb)), (qk, .inl (cI, 12, .inl fk)), (qg, .inl (cI, 3, .inl fg)), (xh, .inr (4, [.ref ch, .ref bh, .ref lg, .int lgd, .ref sh, .ref vh])), (ch, .inr (0, [.ref ca, .int ccc, .int cac, .int cfc, .int clc])), (ca, .inl (cI, 10, .inl cf)), (bh, .inr (0, [.ref ba, .int bcc, .int bac, .int bfc, .int blc])), (ba, .inl (cI, 10, .inl bf')), (lg, .inl (cI, 12, .inl lgf)), (sh, .inr (2, [.ref sa, .int cnt, .int call])), (sa, .inl (cI, 12, .inl swf)), (vh, .inr (3, [.ref va])), (va, .inl (cI, 12, .inl fnf))] H := hP
                have hD : va_D A [(qb, .inl (cI, 12, .inl fb)), (qk, .inl (cI, 12, .inl fk)), (qg, .inl (cI, 3, .inl fg)), (xh, .inr (4, [.ref ch, .ref bh, .ref lg, .int lgd, .ref sh, .ref vh])), (ch, .inr (0, [.ref ca, .int ccc, .int cac, .int cfc, .int clc])), (ca, .inl (cI, 10, .inl cf)), (bh, .inr (0, [.ref ba, .int bcc, .int bac, .int bfc, .int blc])), (ba, .inl (cI, 10, .inl bf')), (lg, .inl (cI, 12, .inl lgf)), (sh, .inr (2, [.ref sa, .int cnt, .int call])), (sa, .inl (cI, 12, .inl swf)), (vh, .inr (3, [.ref va])), (va, .inl (cI, 12, .inl fnf))] := hD
                refine lv_iload hx hb dL_isBoard_180 (lv_at hl 9 rfl) ?_
                refine lv_icmp_ne (tgt := 189) hx hb dL_isBoard_182 (by decide) (fun c_48 => ?_) (fun c_48 => ?_)
                · have h := h.2 c_48
                  refine lv_iconst (v := 0) hx hb dL_isBoard_189 (by decide) ?_
                  refine lv_istore (lv' := [(4, .int 0), (0, .ref xh), (1, .ref qb), (2, .ref qk), (3, .ref qg), (5, .int x5), (6, .int x6), (7, .int x7), (8, .int x8), (9, .int x9)]) hx hb dL_isBoard_190 hl (by decide) rfl (fun ls hl => ?_)
                  exact ih.2.2 _ _ _ _ _ _ _ _ _ _ h.1 (Nat.lt_of_lt_of_le h.2 (Nat.le_of_lt_succ hmu)) (hP.sub [3, 4, 5, 6, 7, 8, 9, 10, 11, 12, 0, 1, 2] rfl) (hD.sub [3, 4, 5, 6, 7, 8, 9, 10, 11, 12, 0, 1, 2] (by decide) rfl) hS (lv_sub hl [1, 2, 3, 4, 0, 5, 6, 7, 8, 9] rfl)
                · have h := h.1 c_48
                  refine lv_iconst (v := 1) hx hb dL_isBoard_185 (by decide) ?_
                  refine lv_goto (tgt := 190) hx hb dL_isBoard_186 (by decide) ?_
                  refine lv_istore (lv' := [(4, .int 1), (0, .ref xh), (1, .ref qb), (2, .ref qk), (3, .ref qg), (5, .int x5), (6, .int x6), (7, .int x7), (8, .int x8), (9, .int x9)]) hx hb dL_isBoard_190 hl (by decide) rfl (fun ls hl => ?_)
                  exact ih.2.2 _ _ _ _ _ _ _ _ _ _ h.1 (Nat.lt_of_lt_of_le h.2 (Nat.le_of_lt_succ hmu)) (hP.sub [3, 4, 5, 6, 7, 8, 9, 10, 11, 12, 0, 1, 2] rfl) (hD.sub [3, 4, 5, 6, 7, 8, 9, 10, 11, 12, 0, 1, 2] (by decide) rfl) hS (lv_sub hl [1, 2, 3, 4, 0, 5, 6, 7, 8, 9] rfl)
      · intro x4 x5 x6 x7 x8 x9 bf' H locs ls hI hmu hP hD hS hl
        have h := hv192 x4 x5 x6 x7 x8 x9 bf' hI
        unfold vs_L_isBoard_192 at h
        refine lv_iload hx hb dL_isBoard_192 (lv_at hl 5 rfl) ?_
        refine lv_if_eq (tgt := 215) hx hb dL_isBoard_194 (by decide) (fun c_49 => ?_) (fun c_49 => ?_)
        · have h := h.1 c_49
          refine lv_iconst (v := 0) hx hb dL_isBoard_215 (by decide) ?_
          refine lv_istore (lv' := [(5, .int 0), (0, .ref xh), (1, .ref qb), (2, .ref qk), (3, .ref qg), (4, .int x4), (6, .int x6), (7, .int x7), (8, .int x8), (9, .int x9)]) hx hb dL_isBoard_216 hl (by decide) rfl (fun ls hl => ?_)
          obtain ⟨y_50, ey_50⟩ : ∃ y : Int32, y = x6 + 1 := ⟨_, rfl⟩
          have h := h y_50 ey_50
          refine lv_iinc (v := y_50) (lv' := [(6, .int y_50), (5, .int 0), (0, .ref xh), (1, .ref qb), (2, .ref qk), (3, .ref qg), (4, .int x4), (7, .int x7), (8, .int x8), (9, .int x9)]) hx hb dL_isBoard_218 hl (k := 6) rfl (by rw [ey_50]; rfl) (by decide) rfl (fun ls hl => ?_)
          refine lv_goto (tgt := 45) hx hb dL_isBoard_221 (by decide) ?_
          exact ih.1 _ _ _ _ _ _ _ h.1 (Nat.lt_of_lt_of_le h.2 (Nat.le_of_lt_succ hmu)) (hP.sub [0, 1, 2, 3, 4, 5, 6, 7, 8, 9, 10, 11, 12] rfl) (hD.sub [0, 1, 2, 3, 4, 5, 6, 7, 8, 9, 10, 11, 12] (by decide) rfl) hS (lv_sub hl [2, 3, 4, 5, 6, 1, 0] rfl)
        · have h := h.2 c_49
          refine lv_iload hx hb dL_isBoard_197 (lv_at hl 8 rfl) ?_
          refine lv_aload_n hx hb dL_isBoard_199 rfl (lv_at hl 1 rfl) ?_
          refine lv_iload hx hb dL_isBoard_200 (lv_at hl 6 rfl) ?_
          obtain ⟨i_51, h⟩ := h
          refine va_iald hx hb hK hP 10 0 rfl rfl i_51 dL_isBoard_202 ?_
          refine lv_icmp_ne (tgt := 215) hx hb dL_isBoard_203 (by decide) (fun c_52 => ?_) (fun c_52 => ?_)
          · have h := h.2 c_52
            refine lv_iconst (v := 0) hx hb dL_isBoard_215 (by decide) ?_
            refine lv_istore (lv' := [(5, .int 0), (0, .ref xh), (1, .ref qb), (2, .ref qk), (3, .ref qg), (4, .int x4), (6, .int x6), (7, .int x7), (8, .int x8), (9, .int x9)]) hx hb dL_isBoard_216 hl (by decide) rfl (fun ls hl => ?_)
            obtain ⟨y_53, ey_53⟩ : ∃ y : Int32, y = x6 + 1 := ⟨_, rfl⟩
            have h := h y_53 ey_53
            refine lv_iinc (v := y_53) (lv' := [(6, .int y_53), (5, .int 0), (0, .ref xh), (1, .ref qb), (2, .ref qk), (3, .ref qg), (4, .int x4), (7, .int x7), (8, .int x8), (9, .int x9)]) hx hb dL_isBoard_218 hl (k := 6) rfl (by rw [ey_53]; rfl) (by decide) rfl (fun ls hl => ?_)
            refine lv_goto (tgt := 45) hx hb dL_isBoard_221 (by decide) ?_
            exact ih.1 _ _ _ _ _ _ _ h.1 (Nat.lt_of_lt_of_le h.2 (Nat.le_of_lt_succ hmu)) (hP.sub [0, 1, 2, 3, 4, 5, 6, 7, 8, 9, 10, 11, 12] rfl) (hD.sub [0, 1, 2, 3, 4, 5, 6, 7, 8, 9, 10, 11, 12] (by decide) rfl) hS (lv_sub hl [2, 3, 4, 5, 6, 1, 0] rfl)
          · have h := h.1 c_52
            refine lv_iload hx hb dL_isBoard_206 (lv_at hl 8 rfl) ?_
            refine lv_if_le (tgt := 215) hx hb dL_isBoard_208 (by decide) (fun c_54 => ?_) (fun c_54 => ?_)
            · have h := h.1 c_54
              refine lv_iconst (v := 0) hx hb dL_isBoard_215 (by decide) ?_
              refine lv_istore (lv' := [(5, .int 0), (0, .ref xh), (1, .ref qb), (2, .ref qk), (3, .ref qg), (4, .int x4), (6, .int x6), (7, .int x7), (8, .int x8), (9, .int x9)]) hx hb dL_isBoard_216 hl (by decide) rfl (fun ls hl => ?_)
              obtain ⟨y_55, ey_55⟩ : ∃ y : Int32, y = x6 + 1 := ⟨_, rfl⟩
              have h := h y_55 ey_55
              refine lv_iinc (v := y_55) (lv' := [(6, .int y_55), (5, .int 0), (0, .ref xh), (1, .ref qb), (2, .ref qk), (3, .ref qg), (4, .int x4), (7, .int x7), (8, .int x8), (9, .int x9)]) hx hb dL_isBoard_218 hl (k := 6) rfl (by rw [ey_55]; rfl) (by decide) rfl (fun ls hl => ?_)
              refine lv_goto (tgt := 45) hx hb dL_isBoard_221 (by decide) ?_
              exact ih.1 _ _ _ _ _ _ _ h.1 (Nat.lt_of_lt_of_le h.2 (Nat.le_of_lt_succ hmu)) (hP.sub [0, 1, 2, 3, 4, 5, 6, 7, 8, 9, 10, 11, 12] rfl) (hD.sub [0, 1, 2, 3, 4, 5, 6, 7, 8, 9, 10, 11, 12] (by decide) rfl) hS (lv_sub hl [2, 3, 4, 5, 6, 1, 0] rfl)
            · have h := h.2 c_54
              refine lv_iconst (v := 1) hx hb dL_isBoard_211 (by decide) ?_
              refine lv_goto (tgt := 216) hx hb dL_isBoard_212 (by decide) ?_
              refine lv_istore (lv' := [(5, .int 1), (0, .ref xh), (1, .ref qb), (2, .ref qk), (3, .ref qg), (4, .int x4), (6, .int x6), (7, .int x7), (8, .int x8), (9, .int x9)]) hx hb dL_isBoard_216 hl (by decide) rfl (fun ls hl => ?_)
              obtain ⟨y_56, ey_56⟩ : ∃ y : Int32, y = x6 + 1 := ⟨_, rfl⟩
              have h := h y_56 ey_56
              refine lv_iinc (v := y_56) (lv' := [(6, .int y_56), (5, .int 1), (0, .ref xh), (1, .ref qb), (2, .ref qk), (3, .ref qg), (4, .int x4), (7, .int x7), (8, .int x8), (9, .int x9)]) hx hb dL_isBoard_218 hl (k := 6) rfl (by rw [ey_56]; rfl) (by decide) rfl (fun ls hl => ?_)
              refine lv_goto (tgt := 45) hx hb dL_isBoard_221 (by decide) ?_
              exact ih.1 _ _ _ _ _ _ _ h.1 (Nat.lt_of_lt_of_le h.2 (Nat.le_of_lt_succ hmu)) (hP.sub [0, 1, 2, 3, 4, 5, 6, 7, 8, 9, 10, 11, 12] rfl) (hD.sub [0, 1, 2, 3, 4, 5, 6, 7, 8, 9, 10, 11, 12] (by decide) rfl) hS (lv_sub hl [2, 3, 4, 5, 6, 1, 0] rfl)
  have L45 := fun N => (LL45 N).1
  have L128 := fun N => (LL45 N).2.1
  have L192 := fun N => (LL45 N).2.2
  have h := he
  unfold ve_L_isBoard at h
  have hl : lv_has ls 10 [(0, .ref xh), (1, .ref qb), (2, .ref qk), (3, .ref qg)] := hl
  refine lv_aload_n hx hb dL_isBoard_0 rfl (lv_at hl 0 rfl) ?_
  have hPc := hP.sub (ws' := [(xh, .inr (4, [.ref ch, .ref bh, .ref lg, .int lgd, .ref sh, .ref vh])), (ch, .inr (0, [.ref ca, .int ccc, .int cac, .int cfc, .int clc])), (ca, .inl (cI, 10, .inl cf)), (bh, .inr (0, [.ref ba, .int bcc, .int bac, .int bfc, .int blc])), (ba, .inl (cI, 10, .inl bf)), (lg, .inl (cI, 12, .inl lgf)), (sh, .inr (2, [.ref sa, .int cnt, .int call])), (sa, .inl (cI, 12, .inl swf)), (vh, .inr (3, [.ref va])), (va, .inl (cI, 12, .inl fnf))]) [0, 1, 2, 3, 4, 5, 6, 7, 8, 9] rfl
  have hDc := hD.sub (ws' := [(xh, .inr (4, [.ref ch, .ref bh, .ref lg, .int lgd, .ref sh, .ref vh])), (ch, .inr (0, [.ref ca, .int ccc, .int cac, .int cfc, .int clc])), (ca, .inl (cI, 10, .inl cf)), (bh, .inr (0, [.ref ba, .int bcc, .int bac, .int bfc, .int blc])), (ba, .inl (cI, 10, .inl bf)), (lg, .inl (cI, 12, .inl lgf)), (sh, .inr (2, [.ref sa, .int cnt, .int call])), (sa, .inl (cI, 12, .inl swf)), (vh, .inr (3, [.ref va])), (va, .inl (cI, 12, .inl fnf))]) [0, 1, 2, 3, 4, 5, 6, 7, 8, 9] (by decide) rfl
  refine ff_callI (va_runV (As := []) (rest := []) ⟨hx, hb, hml, hown, hts⟩ (c_X4_area l D cI xh ch ca bh ba lg sh sa vh va H.size lgd ccc cac cfc clc cf bcc bac bfc blc bf lgf cnt call swf fnf) (cwV 0 hts gL_isBoard_X4_area rfl rfl rfl (by decide +kernel) ⟨Nat.le_of_ble_eq_true rfl, Nat.le_of_ble_eq_true rfl⟩) (ff_preV (q := (RX4, TX4, 6)) (ci := 4) (q0 := 0) hPc hK hDc hN rfl rfl) rfl rfl hl.1 rfl (lv_room (Nat.le_of_ble_eq_true rfl)) dL_isBoard_1 ⟨Nat.le_of_ble_eq_true rfl, Nat.le_of_ble_eq_true rfl⟩) hP hD hS hA [0, 1, 2, 3, 4, 5, 6, 7, 8, 9] [10, 11, 12] (wr := [(qb, .inl (cI, 12, .inl fb)), (qk, .inl (cI, 12, .inl fk)), (qg, .inl (cI, 3, .inl fg))]) rfl rfl (by decide) (by decide) (fun r u H locs hw hP hD hS => ?_)
  replace hw := hw.symm
  subst hw
  have hP : va_P D vwCl [(qb, .inl (cI, 12, .inl fb)), (qk, .inl (cI, 12, .inl fk)), (qg, .inl (cI, 3, .inl fg)), (xh, .inr (4, [.ref ch, .ref bh, .ref lg, .int lgd, .ref sh, .ref vh])), (ch, .inr (0, [.ref ca, .int ccc, .int cac, .int cfc, .int clc])), (ca, .inl (cI, 10, .inl cf)), (bh, .inr (0, [.ref ba, .int bcc, .int bac, .int bfc, .int blc])), (ba, .inl (cI, 10, .inl bf)), (lg, .inl (cI, 12, .inl lgf)), (sh, .inr (2, [.ref sa, .int cnt, .int call])), (sa, .inl (cI, 12, .inl swf)), (vh, .inr (3, [.ref va])), (va, .inl (cI, 12, .inl fnf))] H := hP
  have hD : va_D A [(qb, .inl (cI, 12, .inl fb)), (qk, .inl (cI, 12, .inl fk)), (qg, .inl (cI, 3, .inl fg)), (xh, .inr (4, [.ref ch, .ref bh, .ref lg, .int lgd, .ref sh, .ref vh])), (ch, .inr (0, [.ref ca, .int ccc, .int cac, .int cfc, .int clc])), (ca, .inl (cI, 10, .inl cf)), (bh, .inr (0, [.ref ba, .int bcc, .int bac, .int bfc, .int blc])), (ba, .inl (cI, 10, .inl bf)), (lg, .inl (cI, 12, .inl lgf)), (sh, .inr (2, [.ref sa, .int cnt, .int call])), (sa, .inl (cI, 12, .inl swf)), (vh, .inr (3, [.ref va])), (va, .inl (cI, 12, .inl fnf))] := hD
  refine lv_aload_n hx hb dL_isBoard_4 rfl (lv_at hl 3 rfl) ?_
  refine lv_iconst (v := 0) hx hb dL_isBoard_5 (by decide) ?_
  refine ff_ialdK hx hb hK hP 2 0 rfl rfl (vp_in_nI (n := 0) (N := 3) (by decide) (by decide)) (k := 0) rfl dL_isBoard_6 ?_
  refine lv_aload_n hx hb dL_isBoard_7 rfl (lv_at hl 3 rfl) ?_
  refine lv_iconst (v := 1) hx hb dL_isBoard_8 (by decide) ?_
  refine ff_ialdK hx hb hK hP 2 0 rfl rfl (vp_in_nI (n := 1) (N := 3) (by decide) (by decide)) (k := 1) rfl dL_isBoard_9 ?_
  refine lv_imul hx hb dL_isBoard_10 ?_
  refine lv_icmp_ne (tgt := 36) hx hb dL_isBoard_11 (by decide) (fun c_57 => ?_) (fun c_57 => ?_)
  · have h := h.2 c_57
    refine lv_iconst (v := 0) hx hb dL_isBoard_36 (by decide) ?_
    refine lv_istore (lv' := [(4, .int 0), (0, .ref xh), (1, .ref qb), (2, .ref qk), (3, .ref qg)]) hx hb dL_isBoard_37 hl (by decide) rfl (fun ls hl => ?_)
    refine lv_iconst (v := 1) hx hb dL_isBoard_39 (by decide) ?_
    refine lv_istore (lv' := [(5, .int 1), (4, .int 0), (0, .ref xh), (1, .ref qb), (2, .ref qk), (3, .ref qg)]) hx hb dL_isBoard_40 hl (by decide) rfl (fun ls hl => ?_)
    refine lv_iconst (v := 0) hx hb dL_isBoard_42 (by decide) ?_
    refine lv_istore (lv' := [(6, .int 0), (5, .int 1), (4, .int 0), (0, .ref xh), (1, .ref qb), (2, .ref qk), (3, .ref qg)]) hx hb dL_isBoard_43 hl (by decide) rfl (fun ls hl => ?_)
    exact L45 _ _ _ _ _ _ _ _ h (Nat.lt_succ_self _) (hP.sub [3, 4, 5, 6, 7, 8, 9, 10, 11, 12, 0, 1, 2] rfl) (hD.sub [3, 4, 5, 6, 7, 8, 9, 10, 11, 12, 0, 1, 2] (by decide) rfl) hS (lv_sub hl [3, 4, 5, 6, 2, 1, 0] rfl)
  · have h := h.1 c_57
    refine lv_aload_n hx hb dL_isBoard_14 rfl (lv_at hl 0 rfl) ?_
    have hPc := hP.sub (ws' := [(xh, .inr (4, [.ref ch, .ref bh, .ref lg, .int lgd, .ref sh, .ref vh])), (ch, .inr (0, [.ref ca, .int ccc, .int cac, .int cfc, .int clc])), (ca, .inl (cI, 10, .inl cf)), (bh, .inr (0, [.ref ba, .int bcc, .int bac, .int bfc, .int blc])), (ba, .inl (cI, 10, .inl bf)), (lg, .inl (cI, 12, .inl lgf)), (sh, .inr (2, [.ref sa, .int cnt, .int call])), (sa, .inl (cI, 12, .inl swf)), (vh, .inr (3, [.ref va])), (va, .inl (cI, 12, .inl fnf))]) [3, 4, 5, 6, 7, 8, 9, 10, 11, 12] rfl
    have hDc := hD.sub (ws' := [(xh, .inr (4, [.ref ch, .ref bh, .ref lg, .int lgd, .ref sh, .ref vh])), (ch, .inr (0, [.ref ca, .int ccc, .int cac, .int cfc, .int clc])), (ca, .inl (cI, 10, .inl cf)), (bh, .inr (0, [.ref ba, .int bcc, .int bac, .int bfc, .int blc])), (ba, .inl (cI, 10, .inl bf)), (lg, .inl (cI, 12, .inl lgf)), (sh, .inr (2, [.ref sa, .int cnt, .int call])), (sa, .inl (cI, 12, .inl swf)), (vh, .inr (3, [.ref va])), (va, .inl (cI, 12, .inl fnf))]) [3, 4, 5, 6, 7, 8, 9, 10, 11, 12] (by decide) rfl
    refine ff_callI (va_runV (As := []) (rest := []) ⟨hx, hb, hml, hown, hts⟩ (c_X4_filled l D cI xh ch ca bh ba lg sh sa vh va H.size lgd ccc cac cfc clc cf bcc bac bfc blc bf lgf cnt call swf fnf) (cwV 0 hts gL_isBoard_X4_filled rfl rfl rfl (by decide +kernel) ⟨Nat.le_of_ble_eq_true rfl, Nat.le_of_ble_eq_true rfl⟩) (ff_preV (q := (RX4, TX4, 6)) (ci := 4) (q0 := 0) hPc hK hDc hN rfl rfl) rfl rfl hl.1 rfl (lv_room (Nat.le_of_ble_eq_true rfl)) dL_isBoard_15 ⟨Nat.le_of_ble_eq_true rfl, Nat.le_of_ble_eq_true rfl⟩) hP hD hS hA [3, 4, 5, 6, 7, 8, 9, 10, 11, 12] [0, 1, 2] (wr := [(qb, .inl (cI, 12, .inl fb)), (qk, .inl (cI, 12, .inl fk)), (qg, .inl (cI, 3, .inl fg))]) rfl rfl (by decide) (by decide) (fun r u H locs hw hP hD hS => ?_)
    replace hw := hw.symm
    subst hw
    have hP : va_P D vwCl [(qb, .inl (cI, 12, .inl fb)), (qk, .inl (cI, 12, .inl fk)), (qg, .inl (cI, 3, .inl fg)), (xh, .inr (4, [.ref ch, .ref bh, .ref lg, .int lgd, .ref sh, .ref vh])), (ch, .inr (0, [.ref ca, .int ccc, .int cac, .int cfc, .int clc])), (ca, .inl (cI, 10, .inl cf)), (bh, .inr (0, [.ref ba, .int bcc, .int bac, .int bfc, .int blc])), (ba, .inl (cI, 10, .inl bf)), (lg, .inl (cI, 12, .inl lgf)), (sh, .inr (2, [.ref sa, .int cnt, .int call])), (sa, .inl (cI, 12, .inl swf)), (vh, .inr (3, [.ref va])), (va, .inl (cI, 12, .inl fnf))] H := hP
    have hD : va_D A [(qb, .inl (cI, 12, .inl fb)), (qk, .inl (cI, 12, .inl fk)), (qg, .inl (cI, 3, .inl fg)), (xh, .inr (4, [.ref ch, .ref bh, .ref lg, .int lgd, .ref sh, .ref vh])), (ch, .inr (0, [.ref ca, .int ccc, .int cac, .int cfc, .int clc])), (ca, .inl (cI, 10, .inl cf)), (bh, .inr (0, [.ref ba, .int bcc, .int bac, .int bfc, .int blc])), (ba, .inl (cI, 10, .inl bf)), (lg, .inl (cI, 12, .inl lgf)), (sh, .inr (2, [.ref sa, .int cnt, .int call])), (sa, .inl (cI, 12, .inl swf)), (vh, .inr (3, [.ref va])), (va, .inl (cI, 12, .inl fnf))] := hD
    refine lv_aload_n hx hb dL_isBoard_18 rfl (lv_at hl 3 rfl) ?_
    refine lv_iconst (v := 2) hx hb dL_isBoard_19 (by decide) ?_
    refine ff_ialdK hx hb hK hP 2 0 rfl rfl (vp_in_nI (n := 2) (N := 3) (by decide) (by decide)) (k := 2) rfl dL_isBoard_20 ?_
    refine lv_icmp_ne (tgt := 36) hx hb dL_isBoard_21 (by decide) (fun c_58 => ?_) (fun c_58 => ?_)
    · have h := h.2 c_58
      refine lv_iconst (v := 0) hx hb dL_isBoard_36 (by decide) ?_
      refine lv_istore (lv' := [(4, .int 0), (0, .ref xh), (1, .ref qb), (2, .ref qk), (3, .ref qg)]) hx hb dL_isBoard_37 hl (by decide) rfl (fun ls hl => ?_)
      refine lv_iconst (v := 1) hx hb dL_isBoard_39 (by decide) ?_
      refine lv_istore (lv' := [(5, .int 1), (4, .int 0), (0, .ref xh), (1, .ref qb), (2, .ref qk), (3, .ref qg)]) hx hb dL_isBoard_40 hl (by decide) rfl (fun ls hl => ?_)
      refine lv_iconst (v := 0) hx hb dL_isBoard_42 (by decide) ?_
      refine lv_istore (lv' := [(6, .int 0), (5, .int 1), (4, .int 0), (0, .ref xh), (1, .ref qb), (2, .ref qk), (3, .ref qg)]) hx hb dL_isBoard_43 hl (by decide) rfl (fun ls hl => ?_)
      exact L45 _ _ _ _ _ _ _ _ h (Nat.lt_succ_self _) (hP.sub [3, 4, 5, 6, 7, 8, 9, 10, 11, 12, 0, 1, 2] rfl) (hD.sub [3, 4, 5, 6, 7, 8, 9, 10, 11, 12, 0, 1, 2] (by decide) rfl) hS (lv_sub hl [3, 4, 5, 6, 2, 1, 0] rfl)
    · have h := h.1 c_58
      refine lv_aload_n hx hb dL_isBoard_24 rfl (lv_at hl 1 rfl) ?_
      refine lv_aload_n hx hb dL_isBoard_25 rfl (lv_at hl 3 rfl) ?_
      obtain ⟨p_59, h⟩ := h
      have hPc := hP.sub (ws' := [(qb, .inl (cI, 12, .inl fb)), (qg, .inl (cI, 3, .inl fg))]) [0, 2] rfl
      have hDc := hD.sub (ws' := [(qb, .inl (cI, 12, .inl fb)), (qg, .inl (cI, 3, .inl fg))]) [0, 2] (by decide) rfl
      refine ff_callI (va_runS (As := [.ref qb, .ref qg]) (rest := []) ⟨hx, hb, hml, hown, hts⟩ (c_L_isSound l D cI qb qg H.size fb fg p_59) (va_cwS 2 hts gL_isBoard_L_isSound rfl rfl rfl (by decide +kernel) ⟨Nat.le_of_ble_eq_true rfl, Nat.le_of_ble_eq_true rfl⟩) (ff_preS hPc hK hDc hN) rfl rfl hl.1 rfl (lv_room (Nat.le_of_ble_eq_true rfl)) dL_isBoard_26 ⟨Nat.le_of_ble_eq_true rfl, Nat.le_of_ble_eq_true rfl⟩) hP hD hS hA [0, 2] [1, 3, 4, 5, 6, 7, 8, 9, 10, 11, 12] (wr := [(qk, .inl (cI, 12, .inl fk)), (xh, .inr (4, [.ref ch, .ref bh, .ref lg, .int lgd, .ref sh, .ref vh])), (ch, .inr (0, [.ref ca, .int ccc, .int cac, .int cfc, .int clc])), (ca, .inl (cI, 10, .inl cf)), (bh, .inr (0, [.ref ba, .int bcc, .int bac, .int bfc, .int blc])), (ba, .inl (cI, 10, .inl bf)), (lg, .inl (cI, 12, .inl lgf)), (sh, .inr (2, [.ref sa, .int cnt, .int call])), (sa, .inl (cI, 12, .inl swf)), (vh, .inr (3, [.ref va])), (va, .inl (cI, 12, .inl fnf))]) rfl rfl (by decide) (by decide) (fun r u H locs hw hP hD hS => ?_)
      replace hw := hw.symm
      subst hw
      have hP : va_P D vwCl [(qk, .inl (cI, 12, .inl fk)), (xh, .inr (4, [.ref ch, .ref bh, .ref lg, .int lgd, .ref sh, .ref vh])), (ch, .inr (0, [.ref ca, .int ccc, .int cac, .int cfc, .int clc])), (ca, .inl (cI, 10, .inl cf)), (bh, .inr (0, [.ref ba, .int bcc, .int bac, .int bfc, .int blc])), (ba, .inl (cI, 10, .inl bf)), (lg, .inl (cI, 12, .inl lgf)), (sh, .inr (2, [.ref sa, .int cnt, .int call])), (sa, .inl (cI, 12, .inl swf)), (vh, .inr (3, [.ref va])), (va, .inl (cI, 12, .inl fnf)), (qb, .inl (cI, 12, .inl fb)), (qg, .inl (cI, 3, .inl fg))] H := hP
      have hD : va_D A [(qk, .inl (cI, 12, .inl fk)), (xh, .inr (4, [.ref ch, .ref bh, .ref lg, .int lgd, .ref sh, .ref vh])), (ch, .inr (0, [.ref ca, .int ccc, .int cac, .int cfc, .int clc])), (ca, .inl (cI, 10, .inl cf)), (bh, .inr (0, [.ref ba, .int bcc, .int bac, .int bfc, .int blc])), (ba, .inl (cI, 10, .inl bf)), (lg, .inl (cI, 12, .inl lgf)), (sh, .inr (2, [.ref sa, .int cnt, .int call])), (sa, .inl (cI, 12, .inl swf)), (vh, .inr (3, [.ref va])), (va, .inl (cI, 12, .inl fnf)), (qb, .inl (cI, 12, .inl fb)), (qg, .inl (cI, 3, .inl fg))] := hD
      refine lv_if_eq (tgt := 36) hx hb dL_isBoard_29 (by decide) (fun c_60 => ?_) (fun c_60 => ?_)
      · have h := h.1 c_60
        refine lv_iconst (v := 0) hx hb dL_isBoard_36 (by decide) ?_
        refine lv_istore (lv' := [(4, .int 0), (0, .ref xh), (1, .ref qb), (2, .ref qk), (3, .ref qg)]) hx hb dL_isBoard_37 hl (by decide) rfl (fun ls hl => ?_)
        refine lv_iconst (v := 1) hx hb dL_isBoard_39 (by decide) ?_
        refine lv_istore (lv' := [(5, .int 1), (4, .int 0), (0, .ref xh), (1, .ref qb), (2, .ref qk), (3, .ref qg)]) hx hb dL_isBoard_40 hl (by decide) rfl (fun ls hl => ?_)
        refine lv_iconst (v := 0) hx hb dL_isBoard_42 (by decide) ?_
        refine lv_istore (lv' := [(6, .int 0), (5, .int 1), (4, .int 0), (0, .ref xh), (1, .ref qb), (2, .ref qk), (3, .ref qg)]) hx hb dL_isBoard_43 hl (by decide) rfl (fun ls hl => ?_)
        exact L45 _ _ _ _ _ _ _ _ h (Nat.lt_succ_self _) (hP.sub [1, 2, 3, 4, 5, 6, 7, 8, 9, 10, 11, 0, 12] rfl) (hD.sub [1, 2, 3, 4, 5, 6, 7, 8, 9, 10, 11, 0, 12] (by decide) rfl) hS (lv_sub hl [3, 4, 5, 6, 2, 1, 0] rfl)
      · have h := h.2 c_60
        refine lv_iconst (v := 1) hx hb dL_isBoard_32 (by decide) ?_
        refine lv_goto (tgt := 37) hx hb dL_isBoard_33 (by decide) ?_
        refine lv_istore (lv' := [(4, .int 1), (0, .ref xh), (1, .ref qb), (2, .ref qk), (3, .ref qg)]) hx hb dL_isBoard_37 hl (by decide) rfl (fun ls hl => ?_)
        refine lv_iconst (v := 1) hx hb dL_isBoard_39 (by decide) ?_
        refine lv_istore (lv' := [(5, .int 1), (4, .int 1), (0, .ref xh), (1, .ref qb), (2, .ref qk), (3, .ref qg)]) hx hb dL_isBoard_40 hl (by decide) rfl (fun ls hl => ?_)
        refine lv_iconst (v := 0) hx hb dL_isBoard_42 (by decide) ?_
        refine lv_istore (lv' := [(6, .int 0), (5, .int 1), (4, .int 1), (0, .ref xh), (1, .ref qb), (2, .ref qk), (3, .ref qg)]) hx hb dL_isBoard_43 hl (by decide) rfl (fun ls hl => ?_)
        exact L45 _ _ _ _ _ _ _ _ h (Nat.lt_succ_self _) (hP.sub [1, 2, 3, 4, 5, 6, 7, 8, 9, 10, 11, 0, 12] rfl) (hD.sub [1, 2, 3, 4, 5, 6, 7, 8, 9, 10, 11, 0, 12] (by decide) rfl) hS (lv_sub hl [3, 4, 5, 6, 2, 1, 0] rfl)
theorem c_L_isBoard (l : Launch) (D : va_G) (cI : ClassId) (xh ch ca bh ba lg sh sa vh va qb qk qg : Nat) (sz : Nat) (lgd : Int32) (ccc : Int32) (cac : Int32) (cfc : Int32) (clc : Int32) (cf : Nat → Int32) (bcc : Int32) (bac : Int32) (bfc : Int32) (blc : Int32) (bf : Nat → Int32) (lgf : Nat → Int32) (cnt : Int32) (call : Int32) (swf : Nat → Int32) (fnf : Nat → Int32) (fb : Nat → Int32) (fk : Nat → Int32) (fg : Nat → Int32) (hpre : PK ccc cac cfc clc cf bcc bac bfc blc bf fb fk fg ∧ lgd = fg 2) : Met l yL_isBoard wsL_isBoard ({ frames := 38, cells := 0, slots := 0, locals := 1026 } : Room) (ff_Pc D [(cI, .int)] [.ref xh, .ref qb, .ref qk, .ref qg] ([(xh, .inr (4, [.ref ch, .ref bh, .ref lg, .int lgd, .ref sh, .ref vh])), (ch, .inr (0, [.ref ca, .int ccc, .int cac, .int cfc, .int clc])), (ca, .inl (cI, 10, .inl cf)), (bh, .inr (0, [.ref ba, .int bcc, .int bac, .int bfc, .int blc])), (ba, .inl (cI, 10, .inl bf)), (lg, .inl (cI, 12, .inl lgf)), (sh, .inr (2, [.ref sa, .int cnt, .int call])), (sa, .inl (cI, 12, .inl swf)), (vh, .inr (3, [.ref va])), (va, .inl (cI, 12, .inl fnf)), (qb, .inl (cI, 12, .inl fb)), (qk, .inl (cI, 12, .inl fk)), (qg, .inl (cI, 3, .inl fg))] : va_W) sz) (va_Qi (fun (r : Int32) (u : (Nat → Int32)) => r = 1 ∧ u = (bf)) (fun (u : (Nat → Int32)) t => ff_B D [(cI, .int)] (va_A ([(xh, .inr (4, [.ref ch, .ref bh, .ref lg, .int lgd, .ref sh, .ref vh])), (ch, .inr (0, [.ref ca, .int ccc, .int cac, .int cfc, .int clc])), (ca, .inl (cI, 10, .inl cf)), (bh, .inr (0, [.ref ba, .int bcc, .int bac, .int bfc, .int blc])), (ba, .inl (cI, 10, .inl bf)), (lg, .inl (cI, 12, .inl lgf)), (sh, .inr (2, [.ref sa, .int cnt, .int call])), (sa, .inl (cI, 12, .inl swf)), (vh, .inr (3, [.ref va])), (va, .inl (cI, 12, .inl fnf)), (qb, .inl (cI, 12, .inl fb)), (qk, .inl (cI, 12, .inl fk)), (qg, .inl (cI, 3, .inl fg))] : va_W) sz) [(xh, .inr (4, [.ref ch, .ref bh, .ref lg, .int lgd, .ref sh, .ref vh])), (ch, .inr (0, [.ref ca, .int ccc, .int cac, .int cfc, .int clc])), (ca, .inl (cI, 10, .inl cf)), (bh, .inr (0, [.ref ba, .int bcc, .int bac, .int bfc, .int blc])), (ba, .inl (cI, 10, .inl u)), (lg, .inl (cI, 12, .inl lgf)), (sh, .inr (2, [.ref sa, .int cnt, .int call])), (sa, .inl (cI, 12, .inl swf)), (vh, .inr (3, [.ref va])), (va, .inl (cI, 12, .inl fnf)), (qb, .inl (cI, 12, .inl fb)), (qk, .inl (cI, 12, .inl fk)), (qg, .inl (cI, 3, .inl fg))] t) (va_A ([(xh, .inr (4, [.ref ch, .ref bh, .ref lg, .int lgd, .ref sh, .ref vh])), (ch, .inr (0, [.ref ca, .int ccc, .int cac, .int cfc, .int clc])), (ca, .inl (cI, 10, .inl cf)), (bh, .inr (0, [.ref ba, .int bcc, .int bac, .int bfc, .int blc])), (ba, .inl (cI, 10, .inl bf)), (lg, .inl (cI, 12, .inl lgf)), (sh, .inr (2, [.ref sa, .int cnt, .int call])), (sa, .inl (cI, 12, .inl swf)), (vh, .inr (3, [.ref va])), (va, .inl (cI, 12, .inl fnf)), (qb, .inl (cI, 12, .inl fb)), (qk, .inl (cI, 12, .inl fk)), (qg, .inl (cI, 3, .inl fg))] : va_W) sz)) 0 0 (va_A ([(xh, .inr (4, [.ref ch, .ref bh, .ref lg, .int lgd, .ref sh, .ref vh])), (ch, .inr (0, [.ref ca, .int ccc, .int cac, .int cfc, .int clc])), (ca, .inl (cI, 10, .inl cf)), (bh, .inr (0, [.ref ba, .int bcc, .int bac, .int bfc, .int blc])), (ba, .inl (cI, 10, .inl bf)), (lg, .inl (cI, 12, .inl lgf)), (sh, .inr (2, [.ref sa, .int cnt, .int call])), (sa, .inl (cI, 12, .inl swf)), (vh, .inr (3, [.ref va])), (va, .inl (cI, 12, .inl fnf)), (qb, .inl (cI, 12, .inl fb)), (qk, .inl (cI, 12, .inl fk)), (qg, .inl (cI, 3, .inl fg))] : va_W) sz) :=
  a_L_isBoard l D cI xh ch ca bh ba lg sh sa vh va qb qk qg sz lgd ccc cac cfc clc cf bcc bac bfc blc bf lgf cnt call swf fnf fb fk fg _ (I_L_isBoard_45 lgd ccc cac cfc clc cf bcc bac bfc blc bf lgf cnt call swf fnf fb fk fg) (mu_L_isBoard_45 lgd ccc cac cfc clc cf bcc bac bfc blc bf lgf cnt call swf fnf fb fk fg) (I_L_isBoard_128 lgd ccc cac cfc clc cf bcc bac bfc blc bf lgf cnt call swf fnf fb fk fg) (mu_L_isBoard_128 lgd ccc cac cfc clc cf bcc bac bfc blc bf lgf cnt call swf fnf fb fk fg) (I_L_isBoard_192 lgd ccc cac cfc clc cf bcc bac bfc blc bf lgf cnt call swf fnf fb fk fg) (mu_L_isBoard_192 lgd ccc cac cfc clc cf bcc bac bfc blc bf lgf cnt call swf fnf fb fk fg) (pl_L_isBoard_45 lgd ccc cac cfc clc cf bcc bac bfc blc bf lgf cnt call swf fnf fb fk fg hpre) (pl_L_isBoard_128 lgd ccc cac cfc clc cf bcc bac bfc blc bf lgf cnt call swf fnf fb fk fg hpre) (pl_L_isBoard_192 lgd ccc cac cfc clc cf bcc bac bfc blc bf lgf cnt call swf fnf fb fk fg hpre) (pe_L_isBoard lgd ccc cac cfc clc cf bcc bac bfc blc bf lgf cnt call swf fnf fb fk fg hpre)
set_option maxHeartbeats 4000000 in
set_option maxRecDepth 100000 in
theorem a_L_canBe (l : Launch) (D : va_G) (cI : ClassId) (xh ch ca bh ba lg sh sa vh va qb qg : Nat) (sz : Nat) (lgd : Int32) (ccc : Int32) (cac : Int32) (cfc : Int32) (clc : Int32) (cf : Nat → Int32) (bcc : Int32) (bac : Int32) (bfc : Int32) (blc : Int32) (bf : Nat → Int32) (lgf : Nat → Int32) (cnt : Int32) (call : Int32) (swf : Nat → Int32) (fnf : Nat → Int32) (fb : Nat → Int32) (fg : Nat → Int32) (p3 : Int32) (P : Int32 → ((Nat → Int32) × (Nat → Int32)) → Prop) (I11 : Int32 → Int32 → Int32 → (Nat → Int32) → (Nat → Int32) → Prop) (mu11 : Int32 → Int32 → Int32 → (Nat → Int32) → (Nat → Int32) → Nat) (hv11 : ∀ (x4 : Int32) (x5 : Int32) (x6 : Int32) (bf' : Nat → Int32) (fb' : Nat → Int32), I11 x4 x5 x6 bf' fb' → vs_L_canBe_11 lgd ccc cac cfc clc cf bcc bac bfc blc bf lgf cnt call swf fnf fb fg p3 P (fun (x49 : Int32) (x59 : Int32) (x69 : Int32) (bf9 : Nat → Int32) (fb9 : Nat → Int32) => I11 x49 x59 x69 bf9 fb9 ∧ mu11 x49 x59 x69 bf9 fb9 < mu11 x4 x5 x6 bf' fb') x4 x5 x6 bf' fb') (he : ve_L_canBe lgd ccc cac cfc clc cf bcc bac bfc blc bf lgf cnt call swf fnf fb fg p3 P I11) : Met l yL_canBe wsL_canBe ({ frames := 6, cells := 0, slots := 0, locals := 131 } : Room) (ff_Pc D [(cI, .int)] [.ref xh, .ref qb, .ref qg, .int p3] ([(xh, .inr (4, [.ref ch, .ref bh, .ref lg, .int lgd, .ref sh, .ref vh])), (ch, .inr (0, [.ref ca, .int ccc, .int cac, .int cfc, .int clc])), (ca, .inl (cI, 10, .inl cf)), (bh, .inr (0, [.ref ba, .int bcc, .int bac, .int bfc, .int blc])), (ba, .inl (cI, 10, .inl bf)), (lg, .inl (cI, 12, .inl lgf)), (sh, .inr (2, [.ref sa, .int cnt, .int call])), (sa, .inl (cI, 12, .inl swf)), (vh, .inr (3, [.ref va])), (va, .inl (cI, 12, .inl fnf)), (qb, .inl (cI, 12, .inl fb)), (qg, .inl (cI, 3, .inl fg))] : va_W) sz) (va_Qi P (fun (u : (Nat → Int32) × (Nat → Int32)) t => ff_B D [(cI, .int)] (va_A ([(xh, .inr (4, [.ref ch, .ref bh, .ref lg, .int lgd, .ref sh, .ref vh])), (ch, .inr (0, [.ref ca, .int ccc, .int cac, .int cfc, .int clc])), (ca, .inl (cI, 10, .inl cf)), (bh, .inr (0, [.ref ba, .int bcc, .int bac, .int bfc, .int blc])), (ba, .inl (cI, 10, .inl bf)), (lg, .inl (cI, 12, .inl lgf)), (sh, .inr (2, [.ref sa, .int cnt, .int call])), (sa, .inl (cI, 12, .inl swf)), (vh, .inr (3, [.ref va])), (va, .inl (cI, 12, .inl fnf)), (qb, .inl (cI, 12, .inl fb)), (qg, .inl (cI, 3, .inl fg))] : va_W) sz) [(xh, .inr (4, [.ref ch, .ref bh, .ref lg, .int lgd, .ref sh, .ref vh])), (ch, .inr (0, [.ref ca, .int ccc, .int cac, .int cfc, .int clc])), (ca, .inl (cI, 10, .inl cf)), (bh, .inr (0, [.ref ba, .int bcc, .int bac, .int bfc, .int blc])), (ba, .inl (cI, 10, .inl (u.1))), (lg, .inl (cI, 12, .inl lgf)), (sh, .inr (2, [.ref sa, .int cnt, .int call])), (sa, .inl (cI, 12, .inl swf)), (vh, .inr (3, [.ref va])), (va, .inl (cI, 12, .inl fnf)), (qb, .inl (cI, 12, .inl (u.2))), (qg, .inl (cI, 3, .inl fg))] t) (va_A ([(xh, .inr (4, [.ref ch, .ref bh, .ref lg, .int lgd, .ref sh, .ref vh])), (ch, .inr (0, [.ref ca, .int ccc, .int cac, .int cfc, .int clc])), (ca, .inl (cI, 10, .inl cf)), (bh, .inr (0, [.ref ba, .int bcc, .int bac, .int bfc, .int blc])), (ba, .inl (cI, 10, .inl bf)), (lg, .inl (cI, 12, .inl lgf)), (sh, .inr (2, [.ref sa, .int cnt, .int call])), (sa, .inl (cI, 12, .inl swf)), (vh, .inr (3, [.ref va])), (va, .inl (cI, 12, .inl fnf)), (qb, .inl (cI, 12, .inl fb)), (qg, .inl (cI, 3, .inl fg))] : va_W) sz)) 0 0 (va_A ([(xh, .inr (4, [.ref ch, .ref bh, .ref lg, .int lgd, .ref sh, .ref vh])), (ch, .inr (0, [.ref ca, .int ccc, .int cac, .int cfc, .int clc])), (ca, .inl (cI, 10, .inl cf)), (bh, .inr (0, [.ref ba, .int bcc, .int bac, .int bfc, .int blc])), (ba, .inl (cI, 10, .inl bf)), (lg, .inl (cI, 12, .inl lgf)), (sh, .inr (2, [.ref sa, .int cnt, .int call])), (sa, .inl (cI, 12, .inl swf)), (vh, .inr (3, [.ref va])), (va, .inl (cI, 12, .inl fnf)), (qb, .inl (cI, 12, .inl fb)), (qg, .inl (cI, 3, .inl fg))] : va_W) sz) := by
  refine ff_metZ (Wf := (fun (u : (Nat → Int32) × (Nat → Int32)) => ([(xh, .inr (4, [.ref ch, .ref bh, .ref lg, .int lgd, .ref sh, .ref vh])), (ch, .inr (0, [.ref ca, .int ccc, .int cac, .int cfc, .int clc])), (ca, .inl (cI, 10, .inl cf)), (bh, .inr (0, [.ref ba, .int bcc, .int bac, .int bfc, .int blc])), (ba, .inl (cI, 10, .inl (u.1))), (lg, .inl (cI, 12, .inl lgf)), (sh, .inr (2, [.ref sa, .int cnt, .int call])), (sa, .inl (cI, 12, .inl swf)), (vh, .inr (3, [.ref va])), (va, .inl (cI, 12, .inl fnf)), (qb, .inl (cI, 12, .inl (u.2))), (qg, .inl (cI, 3, .inl fg))] : va_W))) (by decide +kernel) rfl (Nat.le_of_ble_eq_true rfl) ?_
  intro p e s m args below meth c A Q ls H hx hb hml hown hts hN hA hK hP hD hS hret hl
  have L11 : ∀ (N : Nat) (x4 : Int32) (x5 : Int32) (x6 : Int32) (bf' : Nat → Int32) (fb' : Nat → Int32) (H : Heap) (locs : List Loc) (ls : Array Slot), I11 x4 x5 x6 bf' fb' → mu11 x4 x5 x6 bf' fb' < N → va_P D vwCl [(xh, .inr (4, [.ref ch, .ref bh, .ref lg, .int lgd, .ref sh, .ref vh])), (ch, .inr (0, [.ref ca, .int ccc, .int cac, .int cfc, .int clc])), (ca, .inl (cI, 10, .inl cf)), (bh, .inr (0, [.ref ba, .int bcc, .int bac, .int bfc, .int blc])), (ba, .inl (cI, 10, .inl bf')), (lg, .inl (cI, 12, .inl lgf)), (sh, .inr (2, [.ref sa, .int cnt, .int call])), (sa, .inl (cI, 12, .inl swf)), (vh, .inr (3, [.ref va])), (va, .inl (cI, 12, .inl fnf)), (qb, .inl (cI, 12, .inl fb')), (qg, .inl (cI, 3, .inl fg))] H → va_D A [(xh, .inr (4, [.ref ch, .ref bh, .ref lg, .int lgd, .ref sh, .ref vh])), (ch, .inr (0, [.ref ca, .int ccc, .int cac, .int cfc, .int clc])), (ca, .inl (cI, 10, .inl cf)), (bh, .inr (0, [.ref ba, .int bcc, .int bac, .int bfc, .int blc])), (ba, .inl (cI, 10, .inl bf')), (lg, .inl (cI, 12, .inl lgf)), (sh, .inr (2, [.ref sa, .int cnt, .int call])), (sa, .inl (cI, 12, .inl swf)), (vh, .inr (3, [.ref va])), (va, .inl (cI, 12, .inl fnf)), (qb, .inl (cI, 12, .inl fb')), (qg, .inl (cI, 3, .inl fg))] → va_S A s.heap H locs → lv_has ls 7 [(0, .ref xh), (1, .ref qb), (2, .ref qg), (3, .int p3), (4, .int x4), (5, .int x5), (6, .int x6)] → W p l e ({ frames := 6, cells := 0, slots := 0, locals := 131 } : Room) s m args below meth c H locs 0 0 Q (F0 m 11 ls []) := by
    intro N
    induction N with
    | zero => intros; rename_i hz _ _ _ _; exact absurd hz (Nat.not_lt_zero _)
    | succ N ih =>
      intro x4 x5 x6 bf' fb' H locs ls hI hmu hP hD hS hl
      have h := hv11 x4 x5 x6 bf' fb' hI
      unfold vs_L_canBe_11 at h
      refine lv_iload hx hb dL_canBe_11 (lv_at hl 6 rfl) ?_
      refine lv_bipush (v := 10) hx hb dL_canBe_13 (by decide) ?_
      refine lv_icmp_ge (tgt := 79) hx hb dL_canBe_15 (by decide) (fun c_1 => ?_) (fun c_1 => ?_)
      · have h := h.1 c_1
        refine lv_aload_n hx hb dL_canBe_79 rfl (lv_at hl 1 rfl) ?_
        refine lv_iload_n hx hb dL_canBe_80 rfl (lv_at hl 3 rfl) ?_
        refine lv_iload hx hb dL_canBe_81 (lv_at hl 5 rfl) ?_
        obtain ⟨i_2, h⟩ := h
        refine va_iast hx hb hK hP hD hS 10 0 rfl rfl i_2 dL_canBe_83 (fun H locs hP hD hS => ?_)
        have hP : va_P D vwCl [(xh, .inr (4, [.ref ch, .ref bh, .ref lg, .int lgd, .ref sh, .ref vh])), (ch, .inr (0, [.ref ca, .int ccc, .int cac, .int cfc, .int clc])), (ca, .inl (cI, 10, .inl cf)), (bh, .inr (0, [.ref ba, .int bcc, .int bac, .int bfc, .int blc])), (ba, .inl (cI, 10, .inl bf')), (lg, .inl (cI, 12, .inl lgf)), (sh, .inr (2, [.ref sa, .int cnt, .int call])), (sa, .inl (cI, 12, .inl swf)), (vh, .inr (3, [.ref va])), (va, .inl (cI, 12, .inl fnf)), (qb, .inl (cI, 12, .inl (upd fb' p3.toNatClampNeg x5))), (qg, .inl (cI, 3, .inl fg))] H := hP
        have hD : va_D A [(xh, .inr (4, [.ref ch, .ref bh, .ref lg, .int lgd, .ref sh, .ref vh])), (ch, .inr (0, [.ref ca, .int ccc, .int cac, .int cfc, .int clc])), (ca, .inl (cI, 10, .inl cf)), (bh, .inr (0, [.ref ba, .int bcc, .int bac, .int bfc, .int blc])), (ba, .inl (cI, 10, .inl bf')), (lg, .inl (cI, 12, .inl lgf)), (sh, .inr (2, [.ref sa, .int cnt, .int call])), (sa, .inl (cI, 12, .inl swf)), (vh, .inr (3, [.ref va])), (va, .inl (cI, 12, .inl fnf)), (qb, .inl (cI, 12, .inl (upd fb' p3.toNatClampNeg x5))), (qg, .inl (cI, 3, .inl fg))] := hD
        refine lv_iload hx hb dL_canBe_84 (lv_at hl 4 rfl) ?_
        exact hret x4 (bf', upd fb' p3.toNatClampNeg x5) _ _ _ _ _ _ h.1 h.2 (hP.sub [0, 1, 2, 3, 4, 5, 6, 7, 8, 9, 10, 11] rfl) (hD.sub [0, 1, 2, 3, 4, 5, 6, 7, 8, 9, 10, 11] (by decide) rfl) hS (Nat.le_of_ble_eq_true rfl) (Nat.le_of_ble_eq_true rfl) dL_canBe_86
      · have h := h.2 c_1
        refine lv_iload hx hb dL_canBe_18 (lv_at hl 4 rfl) ?_
        refine lv_if_eq (tgt := 79) hx hb dL_canBe_20 (by decide) (fun c_3 => ?_) (fun c_3 => ?_)
        · have h := h.1 c_3
          refine lv_aload_n hx hb dL_canBe_79 rfl (lv_at hl 1 rfl) ?_
          refine lv_iload_n hx hb dL_canBe_80 rfl (lv_at hl 3 rfl) ?_
          refine lv_iload hx hb dL_canBe_81 (lv_at hl 5 rfl) ?_
          obtain ⟨i_4, h⟩ := h
          refine va_iast hx hb hK hP hD hS 10 0 rfl rfl i_4 dL_canBe_83 (fun H locs hP hD hS => ?_)
          have hP : va_P D vwCl [(xh, .inr (4, [.ref ch, .ref bh, .ref lg, .int lgd, .ref sh, .ref vh])), (ch, .inr (0, [.ref ca, .int ccc, .int cac, .int cfc, .int clc])), (ca, .inl (cI, 10, .inl cf)), (bh, .inr (0, [.ref ba, .int bcc, .int bac, .int bfc, .int blc])), (ba, .inl (cI, 10, .inl bf')), (lg, .inl (cI, 12, .inl lgf)), (sh, .inr (2, [.ref sa, .int cnt, .int call])), (sa, .inl (cI, 12, .inl swf)), (vh, .inr (3, [.ref va])), (va, .inl (cI, 12, .inl fnf)), (qb, .inl (cI, 12, .inl (upd fb' p3.toNatClampNeg x5))), (qg, .inl (cI, 3, .inl fg))] H := hP
          have hD : va_D A [(xh, .inr (4, [.ref ch, .ref bh, .ref lg, .int lgd, .ref sh, .ref vh])), (ch, .inr (0, [.ref ca, .int ccc, .int cac, .int cfc, .int clc])), (ca, .inl (cI, 10, .inl cf)), (bh, .inr (0, [.ref ba, .int bcc, .int bac, .int bfc, .int blc])), (ba, .inl (cI, 10, .inl bf')), (lg, .inl (cI, 12, .inl lgf)), (sh, .inr (2, [.ref sa, .int cnt, .int call])), (sa, .inl (cI, 12, .inl swf)), (vh, .inr (3, [.ref va])), (va, .inl (cI, 12, .inl fnf)), (qb, .inl (cI, 12, .inl (upd fb' p3.toNatClampNeg x5))), (qg, .inl (cI, 3, .inl fg))] := hD
          refine lv_iload hx hb dL_canBe_84 (lv_at hl 4 rfl) ?_
          exact hret x4 (bf', upd fb' p3.toNatClampNeg x5) _ _ _ _ _ _ h.1 h.2 (hP.sub [0, 1, 2, 3, 4, 5, 6, 7, 8, 9, 10, 11] rfl) (hD.sub [0, 1, 2, 3, 4, 5, 6, 7, 8, 9, 10, 11] (by decide) rfl) hS (Nat.le_of_ble_eq_true rfl) (Nat.le_of_ble_eq_true rfl) dL_canBe_86
        · have h := h.2 c_3
          refine lv_aload_n hx hb dL_canBe_23 rfl (lv_at hl 1 rfl) ?_
          refine lv_iload_n hx hb dL_canBe_24 rfl (lv_at hl 3 rfl) ?_
          refine lv_iload hx hb dL_canBe_25 (lv_at hl 5 rfl) ?_
          refine lv_if_ne (tgt := 35) hx hb dL_canBe_27 (by decide) (fun c_5 => ?_) (fun c_5 => ?_)
          · have h := h.2 c_5
            refine lv_iload hx hb dL_canBe_35 (lv_at hl 5 rfl) ?_
            obtain ⟨i_6, h⟩ := h
            refine va_iast hx hb hK hP hD hS 10 0 rfl rfl i_6 dL_canBe_37 (fun H locs hP hD hS => ?_)
            have hP : va_P D vwCl [(xh, .inr (4, [.ref ch, .ref bh, .ref lg, .int lgd, .ref sh, .ref vh])), (ch, .inr (0, [.ref ca, .int ccc, .int cac, .int cfc, .int clc])), (ca, .inl (cI, 10, .inl cf)), (bh, .inr (0, [.ref ba, .int bcc, .int bac, .int bfc, .int blc])), (ba, .inl (cI, 10, .inl bf')), (lg, .inl (cI, 12, .inl lgf)), (sh, .inr (2, [.ref sa, .int cnt, .int call])), (sa, .inl (cI, 12, .inl swf)), (vh, .inr (3, [.ref va])), (va, .inl (cI, 12, .inl fnf)), (qb, .inl (cI, 12, .inl (upd fb' p3.toNatClampNeg x5))), (qg, .inl (cI, 3, .inl fg))] H := hP
            have hD : va_D A [(xh, .inr (4, [.ref ch, .ref bh, .ref lg, .int lgd, .ref sh, .ref vh])), (ch, .inr (0, [.ref ca, .int ccc, .int cac, .int cfc, .int clc])), (ca, .inl (cI, 10, .inl cf)), (bh, .inr (0, [.ref ba, .int bcc, .int bac, .int bfc, .int blc])), (ba, .inl (cI, 10, .inl bf')), (lg, .inl (cI, 12, .inl lgf)), (sh, .inr (2, [.ref sa, .int cnt, .int call])), (sa, .inl (cI, 12, .inl swf)), (vh, .inr (3, [.ref va])), (va, .inl (cI, 12, .inl fnf)), (qb, .inl (cI, 12, .inl (upd fb' p3.toNatClampNeg x5))), (qg, .inl (cI, 3, .inl fg))] := hD
            refine lv_aload_n hx hb dL_canBe_38 rfl (lv_at hl 0 rfl) ?_
            refine lv_iload_n hx hb dL_canBe_39 rfl (lv_at hl 3 rfl) ?_
            refine lv_iload hx hb dL_canBe_40 (lv_at hl 6 rfl) ?_
            obtain ⟨p_7, h⟩ := h
            have hPc := hP.sub (ws' := [(xh, .inr (4, [.ref ch, .ref bh, .ref lg, .int lgd, .ref sh, .ref vh])), (ch, .inr (0, [.ref ca, .int ccc, .int cac, .int cfc, .int clc])), (ca, .inl (cI, 10, .inl cf)), (bh, .inr (0, [.ref ba, .int bcc, .int bac, .int bfc, .int blc])), (ba, .inl (cI, 10, .inl bf')), (lg, .inl (cI, 12, .inl lgf)), (sh, .inr (2, [.ref sa, .int cnt, .int call])), (sa, .inl (cI, 12, .inl swf)), (vh, .inr (3, [.ref va])), (va, .inl (cI, 12, .inl fnf))]) [0, 1, 2, 3, 4, 5, 6, 7, 8, 9] rfl
            have hDc := hD.sub (ws' := [(xh, .inr (4, [.ref ch, .ref bh, .ref lg, .int lgd, .ref sh, .ref vh])), (ch, .inr (0, [.ref ca, .int ccc, .int cac, .int cfc, .int clc])), (ca, .inl (cI, 10, .inl cf)), (bh, .inr (0, [.ref ba, .int bcc, .int bac, .int bfc, .int blc])), (ba, .inl (cI, 10, .inl bf')), (lg, .inl (cI, 12, .inl lgf)), (sh, .inr (2, [.ref sa, .int cnt, .int call])), (sa, .inl (cI, 12, .inl swf)), (vh, .inr (3, [.ref va])), (va, .inl (cI, 12, .inl fnf))]) [0, 1, 2, 3, 4, 5, 6, 7, 8, 9] (by decide) rfl
            refine ff_callI (va_runV (As := [.int p3, .int x6]) (rest := []) ⟨hx, hb, hml, hown, hts⟩ (c_X4_canBeN l D cI xh ch ca bh ba lg sh sa vh va H.size lgd ccc cac cfc clc cf bcc bac bfc blc bf' lgf cnt call swf fnf p3 x6 p_7) (cwV 2 hts gL_canBe_X4_canBe rfl rfl rfl (by decide +kernel) ⟨Nat.le_of_ble_eq_true rfl, Nat.le_of_ble_eq_true rfl⟩) (ff_preV (q := (RX4, TX4, 6)) (ci := 4) (q0 := 0) hPc hK hDc hN rfl rfl) rfl rfl hl.1 rfl (lv_room (Nat.le_of_ble_eq_true rfl)) dL_canBe_42 ⟨Nat.le_of_ble_eq_true rfl, Nat.le_of_ble_eq_true rfl⟩) hP hD hS hA [0, 1, 2, 3, 4, 5, 6, 7, 8, 9] [10, 11] (wr := [(qb, .inl (cI, 12, .inl (upd fb' p3.toNatClampNeg x5))), (qg, .inl (cI, 3, .inl fg))]) rfl rfl (by decide) (by decide) (fun r u H locs hw hP hD hS => ?_)
            obtain ⟨e0_w, e1_w⟩ := hw
            replace e0_w := e0_w.symm
            subst e0_w
            replace e1_w := e1_w.symm
            subst e1_w
            have hP : va_P D vwCl [(qb, .inl (cI, 12, .inl (upd fb' p3.toNatClampNeg x5))), (qg, .inl (cI, 3, .inl fg)), (xh, .inr (4, [.ref ch, .ref bh, .ref lg, .int lgd, .ref sh, .ref vh])), (ch, .inr (0, [.ref ca, .int ccc, .int cac, .int cfc, .int clc])), (ca, .inl (cI, 10, .inl cf)), (bh, .inr (0, [.ref ba, .int bcc, .int bac, .int bfc, .int blc])), (ba, .inl (cI, 10, .inl bf')), (lg, .inl (cI, 12, .inl lgf)), (sh, .inr (2, [.ref sa, .int cnt, .int call])), (sa, .inl (cI, 12, .inl swf)), (vh, .inr (3, [.ref va])), (va, .inl (cI, 12, .inl fnf))] H := hP
            have hD : va_D A [(qb, .inl (cI, 12, .inl (upd fb' p3.toNatClampNeg x5))), (qg, .inl (cI, 3, .inl fg)), (xh, .inr (4, [.ref ch, .ref bh, .ref lg, .int lgd, .ref sh, .ref vh])), (ch, .inr (0, [.ref ca, .int ccc, .int cac, .int cfc, .int clc])), (ca, .inl (cI, 10, .inl cf)), (bh, .inr (0, [.ref ba, .int bcc, .int bac, .int bfc, .int blc])), (ba, .inl (cI, 10, .inl bf')), (lg, .inl (cI, 12, .inl lgf)), (sh, .inr (2, [.ref sa, .int cnt, .int call])), (sa, .inl (cI, 12, .inl swf)), (vh, .inr (3, [.ref va])), (va, .inl (cI, 12, .inl fnf))] := hD
            refine lv_iload hx hb dL_canBe_45 (lv_at hl 5 rfl) ?_
            refine lv_if_ne (tgt := 62) hx hb dL_canBe_47 (by decide) (fun c_8 => ?_) (fun c_8 => ?_)
            · have h := h.2 c_8
              refine lv_iconst (v := 0) hx hb dL_canBe_62 (by decide) ?_
              refine lv_icmp_ne (tgt := 70) hx hb dL_canBe_63 (by decide) (fun c_9 => ?_) (fun c_9 => ?_)
              · have h := h.2 c_9
                refine lv_iconst (v := 0) hx hb dL_canBe_70 (by decide) ?_
                refine lv_istore (lv' := [(4, .int 0), (0, .ref xh), (1, .ref qb), (2, .ref qg), (3, .int p3), (5, .int x5), (6, .int x6)]) hx hb dL_canBe_71 hl (by decide) rfl (fun ls hl => ?_)
                obtain ⟨y_10, ey_10⟩ : ∃ y : Int32, y = x6 + 1 := ⟨_, rfl⟩
                have h := h y_10 ey_10
                refine lv_iinc (v := y_10) (lv' := [(6, .int y_10), (4, .int 0), (0, .ref xh), (1, .ref qb), (2, .ref qg), (3, .int p3), (5, .int x5)]) hx hb dL_canBe_73 hl (k := 6) rfl (by rw [ey_10]; rfl) (by decide) rfl (fun ls hl => ?_)
                refine lv_goto (tgt := 11) hx hb dL_canBe_76 (by decide) ?_
                exact ih _ _ _ _ _ _ _ _ h.1 (Nat.lt_of_lt_of_le h.2 (Nat.le_of_lt_succ hmu)) (hP.sub [2, 3, 4, 5, 6, 7, 8, 9, 10, 11, 0, 1] rfl) (hD.sub [2, 3, 4, 5, 6, 7, 8, 9, 10, 11, 0, 1] (by decide) rfl) hS (lv_sub hl [2, 3, 4, 5, 1, 6, 0] rfl)
              · have h := h.1 c_9
                refine lv_iconst (v := 1) hx hb dL_canBe_66 (by decide) ?_
                refine lv_goto (tgt := 71) hx hb dL_canBe_67 (by decide) ?_
                refine lv_istore (lv' := [(4, .int 1), (0, .ref xh), (1, .ref qb), (2, .ref qg), (3, .int p3), (5, .int x5), (6, .int x6)]) hx hb dL_canBe_71 hl (by decide) rfl (fun ls hl => ?_)
                obtain ⟨y_11, ey_11⟩ : ∃ y : Int32, y = x6 + 1 := ⟨_, rfl⟩
                have h := h y_11 ey_11
                refine lv_iinc (v := y_11) (lv' := [(6, .int y_11), (4, .int 1), (0, .ref xh), (1, .ref qb), (2, .ref qg), (3, .int p3), (5, .int x5)]) hx hb dL_canBe_73 hl (k := 6) rfl (by rw [ey_11]; rfl) (by decide) rfl (fun ls hl => ?_)
                refine lv_goto (tgt := 11) hx hb dL_canBe_76 (by decide) ?_
                exact ih _ _ _ _ _ _ _ _ h.1 (Nat.lt_of_lt_of_le h.2 (Nat.le_of_lt_succ hmu)) (hP.sub [2, 3, 4, 5, 6, 7, 8, 9, 10, 11, 0, 1] rfl) (hD.sub [2, 3, 4, 5, 6, 7, 8, 9, 10, 11, 0, 1] (by decide) rfl) hS (lv_sub hl [2, 3, 4, 5, 1, 6, 0] rfl)
            · have h := h.1 c_8
              refine lv_aload_n hx hb dL_canBe_50 rfl (lv_at hl 1 rfl) ?_
              refine lv_aload_n hx hb dL_canBe_51 rfl (lv_at hl 2 rfl) ?_
              obtain ⟨p_12, h⟩ := h
              have hPc := hP.sub (ws' := [(qb, .inl (cI, 12, .inl (upd fb' p3.toNatClampNeg x5))), (qg, .inl (cI, 3, .inl fg))]) [0, 1] rfl
              have hDc := hD.sub (ws' := [(qb, .inl (cI, 12, .inl (upd fb' p3.toNatClampNeg x5))), (qg, .inl (cI, 3, .inl fg))]) [0, 1] (by decide) rfl
              refine ff_callI (va_runS (As := [.ref qb, .ref qg]) (rest := [.int (b2i (zct bcc bac bfc blc bf' p3 x6))]) ⟨hx, hb, hml, hown, hts⟩ (c_L_isSound l D cI qb qg H.size (upd fb' p3.toNatClampNeg x5) fg p_12) (va_cwS 2 hts gL_canBe_L_isSound rfl rfl rfl (by decide +kernel) ⟨Nat.le_of_ble_eq_true rfl, Nat.le_of_ble_eq_true rfl⟩) (ff_preS hPc hK hDc hN) rfl rfl hl.1 rfl (lv_room (Nat.le_of_ble_eq_true rfl)) dL_canBe_52 ⟨Nat.le_of_ble_eq_true rfl, Nat.le_of_ble_eq_true rfl⟩) hP hD hS hA [0, 1] [2, 3, 4, 5, 6, 7, 8, 9, 10, 11] (wr := [(xh, .inr (4, [.ref ch, .ref bh, .ref lg, .int lgd, .ref sh, .ref vh])), (ch, .inr (0, [.ref ca, .int ccc, .int cac, .int cfc, .int clc])), (ca, .inl (cI, 10, .inl cf)), (bh, .inr (0, [.ref ba, .int bcc, .int bac, .int bfc, .int blc])), (ba, .inl (cI, 10, .inl bf')), (lg, .inl (cI, 12, .inl lgf)), (sh, .inr (2, [.ref sa, .int cnt, .int call])), (sa, .inl (cI, 12, .inl swf)), (vh, .inr (3, [.ref va])), (va, .inl (cI, 12, .inl fnf))]) rfl rfl (by decide) (by decide) (fun r u H locs hw hP hD hS => ?_)
              replace hw := hw.symm
              subst hw
              have hP : va_P D vwCl [(xh, .inr (4, [.ref ch, .ref bh, .ref lg, .int lgd, .ref sh, .ref vh])), (ch, .inr (0, [.ref ca, .int ccc, .int cac, .int cfc, .int clc])), (ca, .inl (cI, 10, .inl cf)), (bh, .inr (0, [.ref ba, .int bcc, .int bac, .int bfc, .int blc])), (ba, .inl (cI, 10, .inl bf')), (lg, .inl (cI, 12, .inl lgf)), (sh, .inr (2, [.ref sa, .int cnt, .int call])), (sa, .inl (cI, 12, .inl swf)), (vh, .inr (3, [.ref va])), (va, .inl (cI, 12, .inl fnf)), (qb, .inl (cI, 12, .inl (upd fb' p3.toNatClampNeg x5))), (qg, .inl (cI, 3, .inl fg))] H := hP
              have hD : va_D A [(xh, .inr (4, [.ref ch, .ref bh, .ref lg, .int lgd, .ref sh, .ref vh])), (ch, .inr (0, [.ref ca, .int ccc, .int cac, .int cfc, .int clc])), (ca, .inl (cI, 10, .inl cf)), (bh, .inr (0, [.ref ba, .int bcc, .int bac, .int bfc, .int blc])), (ba, .inl (cI, 10, .inl bf')), (lg, .inl (cI, 12, .inl lgf)), (sh, .inr (2, [.ref sa, .int cnt, .int call])), (sa, .inl (cI, 12, .inl swf)), (vh, .inr (3, [.ref va])), (va, .inl (cI, 12, .inl fnf)), (qb, .inl (cI, 12, .inl (upd fb' p3.toNatClampNeg x5))), (qg, .inl (cI, 3, .inl fg))] := hD
              refine lv_if_eq (tgt := 62) hx hb dL_canBe_55 (by decide) (fun c_13 => ?_) (fun c_13 => ?_)
              · have h := h.1 c_13
                refine lv_iconst (v := 0) hx hb dL_canBe_62 (by decide) ?_
                refine lv_icmp_ne (tgt := 70) hx hb dL_canBe_63 (by decide) (fun c_14 => ?_) (fun c_14 => ?_)
                · have h := h.2 c_14
                  refine lv_iconst (v := 0) hx hb dL_canBe_70 (by decide) ?_
                  refine lv_istore (lv' := [(4, .int 0), (0, .ref xh), (1, .ref qb), (2, .ref qg), (3, .int p3), (5, .int x5), (6, .int x6)]) hx hb dL_canBe_71 hl (by decide) rfl (fun ls hl => ?_)
                  obtain ⟨y_15, ey_15⟩ : ∃ y : Int32, y = x6 + 1 := ⟨_, rfl⟩
                  have h := h y_15 ey_15
                  refine lv_iinc (v := y_15) (lv' := [(6, .int y_15), (4, .int 0), (0, .ref xh), (1, .ref qb), (2, .ref qg), (3, .int p3), (5, .int x5)]) hx hb dL_canBe_73 hl (k := 6) rfl (by rw [ey_15]; rfl) (by decide) rfl (fun ls hl => ?_)
                  refine lv_goto (tgt := 11) hx hb dL_canBe_76 (by decide) ?_
                  exact ih _ _ _ _ _ _ _ _ h.1 (Nat.lt_of_lt_of_le h.2 (Nat.le_of_lt_succ hmu)) (hP.sub [0, 1, 2, 3, 4, 5, 6, 7, 8, 9, 10, 11] rfl) (hD.sub [0, 1, 2, 3, 4, 5, 6, 7, 8, 9, 10, 11] (by decide) rfl) hS (lv_sub hl [2, 3, 4, 5, 1, 6, 0] rfl)
                · have h := h.1 c_14
                  refine lv_iconst (v := 1) hx hb dL_canBe_66 (by decide) ?_
                  refine lv_goto (tgt := 71) hx hb dL_canBe_67 (by decide) ?_
                  refine lv_istore (lv' := [(4, .int 1), (0, .ref xh), (1, .ref qb), (2, .ref qg), (3, .int p3), (5, .int x5), (6, .int x6)]) hx hb dL_canBe_71 hl (by decide) rfl (fun ls hl => ?_)
                  obtain ⟨y_16, ey_16⟩ : ∃ y : Int32, y = x6 + 1 := ⟨_, rfl⟩
                  have h := h y_16 ey_16
                  refine lv_iinc (v := y_16) (lv' := [(6, .int y_16), (4, .int 1), (0, .ref xh), (1, .ref qb), (2, .ref qg), (3, .int p3), (5, .int x5)]) hx hb dL_canBe_73 hl (k := 6) rfl (by rw [ey_16]; rfl) (by decide) rfl (fun ls hl => ?_)
                  refine lv_goto (tgt := 11) hx hb dL_canBe_76 (by decide) ?_
                  exact ih _ _ _ _ _ _ _ _ h.1 (Nat.lt_of_lt_of_le h.2 (Nat.le_of_lt_succ hmu)) (hP.sub [0, 1, 2, 3, 4, 5, 6, 7, 8, 9, 10, 11] rfl) (hD.sub [0, 1, 2, 3, 4, 5, 6, 7, 8, 9, 10, 11] (by decide) rfl) hS (lv_sub hl [2, 3, 4, 5, 1, 6, 0] rfl)
              · have h := h.2 c_13
                refine lv_iconst (v := 1) hx hb dL_canBe_58 (by decide) ?_
                refine lv_goto (tgt := 63) hx hb dL_canBe_59 (by decide) ?_
                refine lv_icmp_ne (tgt := 70) hx hb dL_canBe_63 (by decide) (fun c_17 => ?_) (fun c_17 => ?_)
                · have h := h.2 c_17
                  refine lv_iconst (v := 0) hx hb dL_canBe_70 (by decide) ?_
                  refine lv_istore (lv' := [(4, .int 0), (0, .ref xh), (1, .ref qb), (2, .ref qg), (3, .int p3), (5, .int x5), (6, .int x6)]) hx hb dL_canBe_71 hl (by decide) rfl (fun ls hl => ?_)
                  obtain ⟨y_18, ey_18⟩ : ∃ y : Int32, y = x6 + 1 := ⟨_, rfl⟩
                  have h := h y_18 ey_18
                  refine lv_iinc (v := y_18) (lv' := [(6, .int y_18), (4, .int 0), (0, .ref xh), (1, .ref qb), (2, .ref qg), (3, .int p3), (5, .int x5)]) hx hb dL_canBe_73 hl (k := 6) rfl (by rw [ey_18]; rfl) (by decide) rfl (fun ls hl => ?_)
                  refine lv_goto (tgt := 11) hx hb dL_canBe_76 (by decide) ?_
                  exact ih _ _ _ _ _ _ _ _ h.1 (Nat.lt_of_lt_of_le h.2 (Nat.le_of_lt_succ hmu)) (hP.sub [0, 1, 2, 3, 4, 5, 6, 7, 8, 9, 10, 11] rfl) (hD.sub [0, 1, 2, 3, 4, 5, 6, 7, 8, 9, 10, 11] (by decide) rfl) hS (lv_sub hl [2, 3, 4, 5, 1, 6, 0] rfl)
                · have h := h.1 c_17
                  refine lv_iconst (v := 1) hx hb dL_canBe_66 (by decide) ?_
                  refine lv_goto (tgt := 71) hx hb dL_canBe_67 (by decide) ?_
                  refine lv_istore (lv' := [(4, .int 1), (0, .ref xh), (1, .ref qb), (2, .ref qg), (3, .int p3), (5, .int x5), (6, .int x6)]) hx hb dL_canBe_71 hl (by decide) rfl (fun ls hl => ?_)
                  obtain ⟨y_19, ey_19⟩ : ∃ y : Int32, y = x6 + 1 := ⟨_, rfl⟩
                  have h := h y_19 ey_19
                  refine lv_iinc (v := y_19) (lv' := [(6, .int y_19), (4, .int 1), (0, .ref xh), (1, .ref qb), (2, .ref qg), (3, .int p3), (5, .int x5)]) hx hb dL_canBe_73 hl (k := 6) rfl (by rw [ey_19]; rfl) (by decide) rfl (fun ls hl => ?_)
                  refine lv_goto (tgt := 11) hx hb dL_canBe_76 (by decide) ?_
                  exact ih _ _ _ _ _ _ _ _ h.1 (Nat.lt_of_lt_of_le h.2 (Nat.le_of_lt_succ hmu)) (hP.sub [0, 1, 2, 3, 4, 5, 6, 7, 8, 9, 10, 11] rfl) (hD.sub [0, 1, 2, 3, 4, 5, 6, 7, 8, 9, 10, 11] (by decide) rfl) hS (lv_sub hl [2, 3, 4, 5, 1, 6, 0] rfl)
          · have h := h.1 c_5
            refine lv_iload hx hb dL_canBe_30 (lv_at hl 6 rfl) ?_
            refine lv_goto (tgt := 37) hx hb dL_canBe_32 (by decide) ?_
            obtain ⟨i_20, h⟩ := h
            refine va_iast hx hb hK hP hD hS 10 0 rfl rfl i_20 dL_canBe_37 (fun H locs hP hD hS => ?_)
            have hP : va_P D vwCl [(xh, .inr (4, [.ref ch, .ref bh, .ref lg, .int lgd, .ref sh, .ref vh])), (ch, .inr (0, [.ref ca, .int ccc, .int cac, .int cfc, .int clc])), (ca, .inl (cI, 10, .inl cf)), (bh, .inr (0, [.ref ba, .int bcc, .int bac, .int bfc, .int blc])), (ba, .inl (cI, 10, .inl bf')), (lg, .inl (cI, 12, .inl lgf)), (sh, .inr (2, [.ref sa, .int cnt, .int call])), (sa, .inl (cI, 12, .inl swf)), (vh, .inr (3, [.ref va])), (va, .inl (cI, 12, .inl fnf)), (qb, .inl (cI, 12, .inl (upd fb' p3.toNatClampNeg x6))), (qg, .inl (cI, 3, .inl fg))] H := hP
            have hD : va_D A [(xh, .inr (4, [.ref ch, .ref bh, .ref lg, .int lgd, .ref sh, .ref vh])), (ch, .inr (0, [.ref ca, .int ccc, .int cac, .int cfc, .int clc])), (ca, .inl (cI, 10, .inl cf)), (bh, .inr (0, [.ref ba, .int bcc, .int bac, .int bfc, .int blc])), (ba, .inl (cI, 10, .inl bf')), (lg, .inl (cI, 12, .inl lgf)), (sh, .inr (2, [.ref sa, .int cnt, .int call])), (sa, .inl (cI, 12, .inl swf)), (vh, .inr (3, [.ref va])), (va, .inl (cI, 12, .inl fnf)), (qb, .inl (cI, 12, .inl (upd fb' p3.toNatClampNeg x6))), (qg, .inl (cI, 3, .inl fg))] := hD
            refine lv_aload_n hx hb dL_canBe_38 rfl (lv_at hl 0 rfl) ?_
            refine lv_iload_n hx hb dL_canBe_39 rfl (lv_at hl 3 rfl) ?_
            refine lv_iload hx hb dL_canBe_40 (lv_at hl 6 rfl) ?_
            obtain ⟨p_21, h⟩ := h
            have hPc := hP.sub (ws' := [(xh, .inr (4, [.ref ch, .ref bh, .ref lg, .int lgd, .ref sh, .ref vh])), (ch, .inr (0, [.ref ca, .int ccc, .int cac, .int cfc, .int clc])), (ca, .inl (cI, 10, .inl cf)), (bh, .inr (0, [.ref ba, .int bcc, .int bac, .int bfc, .int blc])), (ba, .inl (cI, 10, .inl bf')), (lg, .inl (cI, 12, .inl lgf)), (sh, .inr (2, [.ref sa, .int cnt, .int call])), (sa, .inl (cI, 12, .inl swf)), (vh, .inr (3, [.ref va])), (va, .inl (cI, 12, .inl fnf))]) [0, 1, 2, 3, 4, 5, 6, 7, 8, 9] rfl
            have hDc := hD.sub (ws' := [(xh, .inr (4, [.ref ch, .ref bh, .ref lg, .int lgd, .ref sh, .ref vh])), (ch, .inr (0, [.ref ca, .int ccc, .int cac, .int cfc, .int clc])), (ca, .inl (cI, 10, .inl cf)), (bh, .inr (0, [.ref ba, .int bcc, .int bac, .int bfc, .int blc])), (ba, .inl (cI, 10, .inl bf')), (lg, .inl (cI, 12, .inl lgf)), (sh, .inr (2, [.ref sa, .int cnt, .int call])), (sa, .inl (cI, 12, .inl swf)), (vh, .inr (3, [.ref va])), (va, .inl (cI, 12, .inl fnf))]) [0, 1, 2, 3, 4, 5, 6, 7, 8, 9] (by decide) rfl
            refine ff_callI (va_runV (As := [.int p3, .int x6]) (rest := []) ⟨hx, hb, hml, hown, hts⟩ (c_X4_canBeN l D cI xh ch ca bh ba lg sh sa vh va H.size lgd ccc cac cfc clc cf bcc bac bfc blc bf' lgf cnt call swf fnf p3 x6 p_21) (cwV 2 hts gL_canBe_X4_canBe rfl rfl rfl (by decide +kernel) ⟨Nat.le_of_ble_eq_true rfl, Nat.le_of_ble_eq_true rfl⟩) (ff_preV (q := (RX4, TX4, 6)) (ci := 4) (q0 := 0) hPc hK hDc hN rfl rfl) rfl rfl hl.1 rfl (lv_room (Nat.le_of_ble_eq_true rfl)) dL_canBe_42 ⟨Nat.le_of_ble_eq_true rfl, Nat.le_of_ble_eq_true rfl⟩) hP hD hS hA [0, 1, 2, 3, 4, 5, 6, 7, 8, 9] [10, 11] (wr := [(qb, .inl (cI, 12, .inl (upd fb' p3.toNatClampNeg x6))), (qg, .inl (cI, 3, .inl fg))]) rfl rfl (by decide) (by decide) (fun r u H locs hw hP hD hS => ?_)
            obtain ⟨e0_w, e1_w⟩ := hw
            replace e0_w := e0_w.symm
            subst e0_w
            replace e1_w := e1_w.symm
            subst e1_w
            have hP : va_P D vwCl [(qb, .inl (cI, 12, .inl (upd fb' p3.toNatClampNeg x6))), (qg, .inl (cI, 3, .inl fg)), (xh, .inr (4, [.ref ch, .ref bh, .ref lg, .int lgd, .ref sh, .ref vh])), (ch, .inr (0, [.ref ca, .int ccc, .int cac, .int cfc, .int clc])), (ca, .inl (cI, 10, .inl cf)), (bh, .inr (0, [.ref ba, .int bcc, .int bac, .int bfc, .int blc])), (ba, .inl (cI, 10, .inl bf')), (lg, .inl (cI, 12, .inl lgf)), (sh, .inr (2, [.ref sa, .int cnt, .int call])), (sa, .inl (cI, 12, .inl swf)), (vh, .inr (3, [.ref va])), (va, .inl (cI, 12, .inl fnf))] H := hP
            have hD : va_D A [(qb, .inl (cI, 12, .inl (upd fb' p3.toNatClampNeg x6))), (qg, .inl (cI, 3, .inl fg)), (xh, .inr (4, [.ref ch, .ref bh, .ref lg, .int lgd, .ref sh, .ref vh])), (ch, .inr (0, [.ref ca, .int ccc, .int cac, .int cfc, .int clc])), (ca, .inl (cI, 10, .inl cf)), (bh, .inr (0, [.ref ba, .int bcc, .int bac, .int bfc, .int blc])), (ba, .inl (cI, 10, .inl bf')), (lg, .inl (cI, 12, .inl lgf)), (sh, .inr (2, [.ref sa, .int cnt, .int call])), (sa, .inl (cI, 12, .inl swf)), (vh, .inr (3, [.ref va])), (va, .inl (cI, 12, .inl fnf))] := hD
            refine lv_iload hx hb dL_canBe_45 (lv_at hl 5 rfl) ?_
            refine lv_if_ne (tgt := 62) hx hb dL_canBe_47 (by decide) (fun c_22 => ?_) (fun c_22 => ?_)
            · have h := h.2 c_22
              refine lv_iconst (v := 0) hx hb dL_canBe_62 (by decide) ?_
              refine lv_icmp_ne (tgt := 70) hx hb dL_canBe_63 (by decide) (fun c_23 => ?_) (fun c_23 => ?_)
              · have h := h.2 c_23
                refine lv_iconst (v := 0) hx hb dL_canBe_70 (by decide) ?_
                refine lv_istore (lv' := [(4, .int 0), (0, .ref xh), (1, .ref qb), (2, .ref qg), (3, .int p3), (5, .int x5), (6, .int x6)]) hx hb dL_canBe_71 hl (by decide) rfl (fun ls hl => ?_)
                obtain ⟨y_24, ey_24⟩ : ∃ y : Int32, y = x6 + 1 := ⟨_, rfl⟩
                have h := h y_24 ey_24
                refine lv_iinc (v := y_24) (lv' := [(6, .int y_24), (4, .int 0), (0, .ref xh), (1, .ref qb), (2, .ref qg), (3, .int p3), (5, .int x5)]) hx hb dL_canBe_73 hl (k := 6) rfl (by rw [ey_24]; rfl) (by decide) rfl (fun ls hl => ?_)
                refine lv_goto (tgt := 11) hx hb dL_canBe_76 (by decide) ?_
                exact ih _ _ _ _ _ _ _ _ h.1 (Nat.lt_of_lt_of_le h.2 (Nat.le_of_lt_succ hmu)) (hP.sub [2, 3, 4, 5, 6, 7, 8, 9, 10, 11, 0, 1] rfl) (hD.sub [2, 3, 4, 5, 6, 7, 8, 9, 10, 11, 0, 1] (by decide) rfl) hS (lv_sub hl [2, 3, 4, 5, 1, 6, 0] rfl)
              · have h := h.1 c_23
                refine lv_iconst (v := 1) hx hb dL_canBe_66 (by decide) ?_
                refine lv_goto (tgt := 71) hx hb dL_canBe_67 (by decide) ?_
                refine lv_istore (lv' := [(4, .int 1), (0, .ref xh), (1, .ref qb), (2, .ref qg), (3, .int p3), (5, .int x5), (6, .int x6)]) hx hb dL_canBe_71 hl (by decide) rfl (fun ls hl => ?_)
                obtain ⟨y_25, ey_25⟩ : ∃ y : Int32, y = x6 + 1 := ⟨_, rfl⟩
                have h := h y_25 ey_25
                refine lv_iinc (v := y_25) (lv' := [(6, .int y_25), (4, .int 1), (0, .ref xh), (1, .ref qb), (2, .ref qg), (3, .int p3), (5, .int x5)]) hx hb dL_canBe_73 hl (k := 6) rfl (by rw [ey_25]; rfl) (by decide) rfl (fun ls hl => ?_)
                refine lv_goto (tgt := 11) hx hb dL_canBe_76 (by decide) ?_
                exact ih _ _ _ _ _ _ _ _ h.1 (Nat.lt_of_lt_of_le h.2 (Nat.le_of_lt_succ hmu)) (hP.sub [2, 3, 4, 5, 6, 7, 8, 9, 10, 11, 0, 1] rfl) (hD.sub [2, 3, 4, 5, 6, 7, 8, 9, 10, 11, 0, 1] (by decide) rfl) hS (lv_sub hl [2, 3, 4, 5, 1, 6, 0] rfl)
            · have h := h.1 c_22
              refine lv_aload_n hx hb dL_canBe_50 rfl (lv_at hl 1 rfl) ?_
              refine lv_aload_n hx hb dL_canBe_51 rfl (lv_at hl 2 rfl) ?_
              obtain ⟨p_26, h⟩ := h
              have hPc := hP.sub (ws' := [(qb, .inl (cI, 12, .inl (upd fb' p3.toNatClampNeg x6))), (qg, .inl (cI, 3, .inl fg))]) [0, 1] rfl
              have hDc := hD.sub (ws' := [(qb, .inl (cI, 12, .inl (upd fb' p3.toNatClampNeg x6))), (qg, .inl (cI, 3, .inl fg))]) [0, 1] (by decide) rfl
              refine ff_callI (va_runS (As := [.ref qb, .ref qg]) (rest := [.int (b2i (zct bcc bac bfc blc bf' p3 x6))]) ⟨hx, hb, hml, hown, hts⟩ (c_L_isSound l D cI qb qg H.size (upd fb' p3.toNatClampNeg x6) fg p_26) (va_cwS 2 hts gL_canBe_L_isSound rfl rfl rfl (by decide +kernel) ⟨Nat.le_of_ble_eq_true rfl, Nat.le_of_ble_eq_true rfl⟩) (ff_preS hPc hK hDc hN) rfl rfl hl.1 rfl (lv_room (Nat.le_of_ble_eq_true rfl)) dL_canBe_52 ⟨Nat.le_of_ble_eq_true rfl, Nat.le_of_ble_eq_true rfl⟩) hP hD hS hA [0, 1] [2, 3, 4, 5, 6, 7, 8, 9, 10, 11] (wr := [(xh, .inr (4, [.ref ch, .ref bh, .ref lg, .int lgd, .ref sh, .ref vh])), (ch, .inr (0, [.ref ca, .int ccc, .int cac, .int cfc, .int clc])), (ca, .inl (cI, 10, .inl cf)), (bh, .inr (0, [.ref ba, .int bcc, .int bac, .int bfc, .int blc])), (ba, .inl (cI, 10, .inl bf')), (lg, .inl (cI, 12, .inl lgf)), (sh, .inr (2, [.ref sa, .int cnt, .int call])), (sa, .inl (cI, 12, .inl swf)), (vh, .inr (3, [.ref va])), (va, .inl (cI, 12, .inl fnf))]) rfl rfl (by decide) (by decide) (fun r u H locs hw hP hD hS => ?_)
              replace hw := hw.symm
              subst hw
              have hP : va_P D vwCl [(xh, .inr (4, [.ref ch, .ref bh, .ref lg, .int lgd, .ref sh, .ref vh])), (ch, .inr (0, [.ref ca, .int ccc, .int cac, .int cfc, .int clc])), (ca, .inl (cI, 10, .inl cf)), (bh, .inr (0, [.ref ba, .int bcc, .int bac, .int bfc, .int blc])), (ba, .inl (cI, 10, .inl bf')), (lg, .inl (cI, 12, .inl lgf)), (sh, .inr (2, [.ref sa, .int cnt, .int call])), (sa, .inl (cI, 12, .inl swf)), (vh, .inr (3, [.ref va])), (va, .inl (cI, 12, .inl fnf)), (qb, .inl (cI, 12, .inl (upd fb' p3.toNatClampNeg x6))), (qg, .inl (cI, 3, .inl fg))] H := hP
              have hD : va_D A [(xh, .inr (4, [.ref ch, .ref bh, .ref lg, .int lgd, .ref sh, .ref vh])), (ch, .inr (0, [.ref ca, .int ccc, .int cac, .int cfc, .int clc])), (ca, .inl (cI, 10, .inl cf)), (bh, .inr (0, [.ref ba, .int bcc, .int bac, .int bfc, .int blc])), (ba, .inl (cI, 10, .inl bf')), (lg, .inl (cI, 12, .inl lgf)), (sh, .inr (2, [.ref sa, .int cnt, .int call])), (sa, .inl (cI, 12, .inl swf)), (vh, .inr (3, [.ref va])), (va, .inl (cI, 12, .inl fnf)), (qb, .inl (cI, 12, .inl (upd fb' p3.toNatClampNeg x6))), (qg, .inl (cI, 3, .inl fg))] := hD
              refine lv_if_eq (tgt := 62) hx hb dL_canBe_55 (by decide) (fun c_27 => ?_) (fun c_27 => ?_)
              · have h := h.1 c_27
                refine lv_iconst (v := 0) hx hb dL_canBe_62 (by decide) ?_
                refine lv_icmp_ne (tgt := 70) hx hb dL_canBe_63 (by decide) (fun c_28 => ?_) (fun c_28 => ?_)
                · have h := h.2 c_28
                  refine lv_iconst (v := 0) hx hb dL_canBe_70 (by decide) ?_
                  refine lv_istore (lv' := [(4, .int 0), (0, .ref xh), (1, .ref qb), (2, .ref qg), (3, .int p3), (5, .int x5), (6, .int x6)]) hx hb dL_canBe_71 hl (by decide) rfl (fun ls hl => ?_)
                  obtain ⟨y_29, ey_29⟩ : ∃ y : Int32, y = x6 + 1 := ⟨_, rfl⟩
                  have h := h y_29 ey_29
                  refine lv_iinc (v := y_29) (lv' := [(6, .int y_29), (4, .int 0), (0, .ref xh), (1, .ref qb), (2, .ref qg), (3, .int p3), (5, .int x5)]) hx hb dL_canBe_73 hl (k := 6) rfl (by rw [ey_29]; rfl) (by decide) rfl (fun ls hl => ?_)
                  refine lv_goto (tgt := 11) hx hb dL_canBe_76 (by decide) ?_
                  exact ih _ _ _ _ _ _ _ _ h.1 (Nat.lt_of_lt_of_le h.2 (Nat.le_of_lt_succ hmu)) (hP.sub [0, 1, 2, 3, 4, 5, 6, 7, 8, 9, 10, 11] rfl) (hD.sub [0, 1, 2, 3, 4, 5, 6, 7, 8, 9, 10, 11] (by decide) rfl) hS (lv_sub hl [2, 3, 4, 5, 1, 6, 0] rfl)
                · have h := h.1 c_28
                  refine lv_iconst (v := 1) hx hb dL_canBe_66 (by decide) ?_
                  refine lv_goto (tgt := 71) hx hb dL_canBe_67 (by decide) ?_
                  refine lv_istore (lv' := [(4, .int 1), (0, .ref xh), (1, .ref qb), (2, .ref qg), (3, .int p3), (5, .int x5), (6, .int x6)]) hx hb dL_canBe_71 hl (by decide) rfl (fun ls hl => ?_)
                  obtain ⟨y_30, ey_30⟩ : ∃ y : Int32, y = x6 + 1 := ⟨_, rfl⟩
                  have h := h y_30 ey_30
                  refine lv_iinc (v := y_30) (lv' := [(6, .int y_30), (4, .int 1), (0, .ref xh), (1, .ref qb), (2, .ref qg), (3, .int p3), (5, .int x5)]) hx hb dL_canBe_73 hl (k := 6) rfl (by rw [ey_30]; rfl) (by decide) rfl (fun ls hl => ?_)
                  refine lv_goto (tgt := 11) hx hb dL_canBe_76 (by decide) ?_
                  exact ih _ _ _ _ _ _ _ _ h.1 (Nat.lt_of_lt_of_le h.2 (Nat.le_of_lt_succ hmu)) (hP.sub [0, 1, 2, 3, 4, 5, 6, 7, 8, 9, 10, 11] rfl) (hD.sub [0, 1, 2, 3, 4, 5, 6, 7, 8, 9, 10, 11] (by decide) rfl) hS (lv_sub hl [2, 3, 4, 5, 1, 6, 0] rfl)
              · have h := h.2 c_27
                refine lv_iconst (v := 1) hx hb dL_canBe_58 (by decide) ?_
                refine lv_goto (tgt := 63) hx hb dL_canBe_59 (by decide) ?_
                refine lv_icmp_ne (tgt := 70) hx hb dL_canBe_63 (by decide) (fun c_31 => ?_) (fun c_31 => ?_)
                · have h := h.2 c_31
                  refine lv_iconst (v := 0) hx hb dL_canBe_70 (by decide) ?_
                  refine lv_istore (lv' := [(4, .int 0), (0, .ref xh), (1, .ref qb), (2, .ref qg), (3, .int p3), (5, .int x5), (6, .int x6)]) hx hb dL_canBe_71 hl (by decide) rfl (fun ls hl => ?_)
                  obtain ⟨y_32, ey_32⟩ : ∃ y : Int32, y = x6 + 1 := ⟨_, rfl⟩
                  have h := h y_32 ey_32
                  refine lv_iinc (v := y_32) (lv' := [(6, .int y_32), (4, .int 0), (0, .ref xh), (1, .ref qb), (2, .ref qg), (3, .int p3), (5, .int x5)]) hx hb dL_canBe_73 hl (k := 6) rfl (by rw [ey_32]; rfl) (by decide) rfl (fun ls hl => ?_)
                  refine lv_goto (tgt := 11) hx hb dL_canBe_76 (by decide) ?_
                  exact ih _ _ _ _ _ _ _ _ h.1 (Nat.lt_of_lt_of_le h.2 (Nat.le_of_lt_succ hmu)) (hP.sub [0, 1, 2, 3, 4, 5, 6, 7, 8, 9, 10, 11] rfl) (hD.sub [0, 1, 2, 3, 4, 5, 6, 7, 8, 9, 10, 11] (by decide) rfl) hS (lv_sub hl [2, 3, 4, 5, 1, 6, 0] rfl)
                · have h := h.1 c_31
                  refine lv_iconst (v := 1) hx hb dL_canBe_66 (by decide) ?_
                  refine lv_goto (tgt := 71) hx hb dL_canBe_67 (by decide) ?_
                  refine lv_istore (lv' := [(4, .int 1), (0, .ref xh), (1, .ref qb), (2, .ref qg), (3, .int p3), (5, .int x5), (6, .int x6)]) hx hb dL_canBe_71 hl (by decide) rfl (fun ls hl => ?_)
                  obtain ⟨y_33, ey_33⟩ : ∃ y : Int32, y = x6 + 1 := ⟨_, rfl⟩
                  have h := h y_33 ey_33
                  refine lv_iinc (v := y_33) (lv' := [(6, .int y_33), (4, .int 1), (0, .ref xh), (1, .ref qb), (2, .ref qg), (3, .int p3), (5, .int x5)]) hx hb dL_canBe_73 hl (k := 6) rfl (by rw [ey_33]; rfl) (by decide) rfl (fun ls hl => ?_)
                  refine lv_goto (tgt := 11) hx hb dL_canBe_76 (by decide) ?_
                  exact ih _ _ _ _ _ _ _ _ h.1 (Nat.lt_of_lt_of_le h.2 (Nat.le_of_lt_succ hmu)) (hP.sub [0, 1, 2, 3, 4, 5, 6, 7, 8, 9, 10, 11] rfl) (hD.sub [0, 1, 2, 3, 4, 5, 6, 7, 8, 9, 10, 11] (by decide) rfl) hS (lv_sub hl [2, 3, 4, 5, 1, 6, 0] rfl)
  have h := he
  unfold ve_L_canBe at h
  have hl : lv_has ls 7 [(0, .ref xh), (1, .ref qb), (2, .ref qg), (3, .int p3)] := hl
  refine lv_iconst (v := 1) hx hb dL_canBe_0 (by decide) ?_
  refine lv_istore (lv' := [(4, .int 1), (0, .ref xh), (1, .ref qb), (2, .ref qg), (3, .int p3)]) hx hb dL_canBe_1 hl (by decide) rfl (fun ls hl => ?_)
  refine lv_aload_n hx hb dL_canBe_3 rfl (lv_at hl 2 rfl) ?_
  refine lv_iload_n hx hb dL_canBe_4 rfl (lv_at hl 4 rfl) ?_
  obtain ⟨i_34, h⟩ := h
  refine va_iald hx hb hK hP 10 0 rfl rfl i_34 dL_canBe_5 ?_
  refine lv_topi (fun y_35 ey_35 => ?_)
  have h := h y_35 ey_35
  refine lv_istore (lv' := [(5, .int y_35), (4, .int 1), (0, .ref xh), (1, .ref qb), (2, .ref qg), (3, .int p3)]) hx hb dL_canBe_6 hl (by decide) rfl (fun ls hl => ?_)
  refine lv_iconst (v := 1) hx hb dL_canBe_8 (by decide) ?_
  refine lv_istore (lv' := [(6, .int 1), (5, .int y_35), (4, .int 1), (0, .ref xh), (1, .ref qb), (2, .ref qg), (3, .int p3)]) hx hb dL_canBe_9 hl (by decide) rfl (fun ls hl => ?_)
  exact L11 _ _ _ _ _ _ _ _ _ h (Nat.lt_succ_self _) (hP.sub [0, 1, 2, 3, 4, 5, 6, 7, 8, 9, 10, 11] rfl) (hD.sub [0, 1, 2, 3, 4, 5, 6, 7, 8, 9, 10, 11] (by decide) rfl) hS (lv_sub hl [3, 4, 5, 6, 2, 1, 0] rfl)
theorem c_L_canBe (l : Launch) (D : va_G) (cI : ClassId) (xh ch ca bh ba lg sh sa vh va qb qg : Nat) (sz : Nat) (lgd : Int32) (ccc : Int32) (cac : Int32) (cfc : Int32) (clc : Int32) (cf : Nat → Int32) (bcc : Int32) (bac : Int32) (bfc : Int32) (blc : Int32) (bf : Nat → Int32) (lgf : Nat → Int32) (cnt : Int32) (call : Int32) (swf : Nat → Int32) (fnf : Nat → Int32) (fb : Nat → Int32) (fg : Nat → Int32) (p3 : Int32) (hpre : (∃ z, PK ccc cac cfc clc cf bcc bac bfc blc bf fb z fg) ∧ cel fg p3) : Met l yL_canBe wsL_canBe ({ frames := 6, cells := 0, slots := 0, locals := 131 } : Room) (ff_Pc D [(cI, .int)] [.ref xh, .ref qb, .ref qg, .int p3] ([(xh, .inr (4, [.ref ch, .ref bh, .ref lg, .int lgd, .ref sh, .ref vh])), (ch, .inr (0, [.ref ca, .int ccc, .int cac, .int cfc, .int clc])), (ca, .inl (cI, 10, .inl cf)), (bh, .inr (0, [.ref ba, .int bcc, .int bac, .int bfc, .int blc])), (ba, .inl (cI, 10, .inl bf)), (lg, .inl (cI, 12, .inl lgf)), (sh, .inr (2, [.ref sa, .int cnt, .int call])), (sa, .inl (cI, 12, .inl swf)), (vh, .inr (3, [.ref va])), (va, .inl (cI, 12, .inl fnf)), (qb, .inl (cI, 12, .inl fb)), (qg, .inl (cI, 3, .inl fg))] : va_W) sz) (va_Qi (fun (r : Int32) (u : (Nat → Int32) × (Nat → Int32)) => r = 1 ∧ u = (bf, fb)) (fun (u : (Nat → Int32) × (Nat → Int32)) t => ff_B D [(cI, .int)] (va_A ([(xh, .inr (4, [.ref ch, .ref bh, .ref lg, .int lgd, .ref sh, .ref vh])), (ch, .inr (0, [.ref ca, .int ccc, .int cac, .int cfc, .int clc])), (ca, .inl (cI, 10, .inl cf)), (bh, .inr (0, [.ref ba, .int bcc, .int bac, .int bfc, .int blc])), (ba, .inl (cI, 10, .inl bf)), (lg, .inl (cI, 12, .inl lgf)), (sh, .inr (2, [.ref sa, .int cnt, .int call])), (sa, .inl (cI, 12, .inl swf)), (vh, .inr (3, [.ref va])), (va, .inl (cI, 12, .inl fnf)), (qb, .inl (cI, 12, .inl fb)), (qg, .inl (cI, 3, .inl fg))] : va_W) sz) [(xh, .inr (4, [.ref ch, .ref bh, .ref lg, .int lgd, .ref sh, .ref vh])), (ch, .inr (0, [.ref ca, .int ccc, .int cac, .int cfc, .int clc])), (ca, .inl (cI, 10, .inl cf)), (bh, .inr (0, [.ref ba, .int bcc, .int bac, .int bfc, .int blc])), (ba, .inl (cI, 10, .inl (u.1))), (lg, .inl (cI, 12, .inl lgf)), (sh, .inr (2, [.ref sa, .int cnt, .int call])), (sa, .inl (cI, 12, .inl swf)), (vh, .inr (3, [.ref va])), (va, .inl (cI, 12, .inl fnf)), (qb, .inl (cI, 12, .inl (u.2))), (qg, .inl (cI, 3, .inl fg))] t) (va_A ([(xh, .inr (4, [.ref ch, .ref bh, .ref lg, .int lgd, .ref sh, .ref vh])), (ch, .inr (0, [.ref ca, .int ccc, .int cac, .int cfc, .int clc])), (ca, .inl (cI, 10, .inl cf)), (bh, .inr (0, [.ref ba, .int bcc, .int bac, .int bfc, .int blc])), (ba, .inl (cI, 10, .inl bf)), (lg, .inl (cI, 12, .inl lgf)), (sh, .inr (2, [.ref sa, .int cnt, .int call])), (sa, .inl (cI, 12, .inl swf)), (vh, .inr (3, [.ref va])), (va, .inl (cI, 12, .inl fnf)), (qb, .inl (cI, 12, .inl fb)), (qg, .inl (cI, 3, .inl fg))] : va_W) sz)) 0 0 (va_A ([(xh, .inr (4, [.ref ch, .ref bh, .ref lg, .int lgd, .ref sh, .ref vh])), (ch, .inr (0, [.ref ca, .int ccc, .int cac, .int cfc, .int clc])), (ca, .inl (cI, 10, .inl cf)), (bh, .inr (0, [.ref ba, .int bcc, .int bac, .int bfc, .int blc])), (ba, .inl (cI, 10, .inl bf)), (lg, .inl (cI, 12, .inl lgf)), (sh, .inr (2, [.ref sa, .int cnt, .int call])), (sa, .inl (cI, 12, .inl swf)), (vh, .inr (3, [.ref va])), (va, .inl (cI, 12, .inl fnf)), (qb, .inl (cI, 12, .inl fb)), (qg, .inl (cI, 3, .inl fg))] : va_W) sz) :=
  a_L_canBe l D cI xh ch ca bh ba lg sh sa vh va qb qg sz lgd ccc cac cfc clc cf bcc bac bfc blc bf lgf cnt call swf fnf fb fg p3 _ (I_L_canBe_11 lgd ccc cac cfc clc cf bcc bac bfc blc bf lgf cnt call swf fnf fb fg p3) (mu_L_canBe_11 lgd ccc cac cfc clc cf bcc bac bfc blc bf lgf cnt call swf fnf fb fg p3) (pl_L_canBe_11 lgd ccc cac cfc clc cf bcc bac bfc blc bf lgf cnt call swf fnf fb fg p3 hpre) (pe_L_canBe lgd ccc cac cfc clc cf bcc bac bfc blc bf lgf cnt call swf fnf fb fg p3 hpre)
set_option maxHeartbeats 4000000 in
set_option maxRecDepth 100000 in
theorem a_L_isHidden (l : Launch) (D : va_G) (cI : ClassId) (xh ch ca bh ba lg sh sa vh va qb qg : Nat) (sz : Nat) (lgd : Int32) (ccc : Int32) (cac : Int32) (cfc : Int32) (clc : Int32) (cf : Nat → Int32) (bcc : Int32) (bac : Int32) (bfc : Int32) (blc : Int32) (bf : Nat → Int32) (lgf : Nat → Int32) (cnt : Int32) (call : Int32) (swf : Nat → Int32) (fnf : Nat → Int32) (fb : Nat → Int32) (fg : Nat → Int32) (p3 : Int32) (P : Int32 → Unit → Prop) (I29 : Int32 → Int32 → Int32 → Prop) (mu29 : Int32 → Int32 → Int32 → Nat) (I83 : Int32 → Int32 → Int32 → Prop) (mu83 : Int32 → Int32 → Int32 → Nat) (hv29 : ∀ (x4 : Int32) (x5 : Int32) (x6 : Int32), I29 x4 x5 x6 → vs_L_isHidden_29 lgd ccc cac cfc clc cf bcc bac bfc blc bf lgf cnt call swf fnf fb fg p3 P (fun (x49 : Int32) (x59 : Int32) (x69 : Int32) => I29 x49 x59 x69 ∧ mu29 x49 x59 x69 < mu29 x4 x5 x6) (fun (x49 : Int32) (x59 : Int32) (x69 : Int32) => I83 x49 x59 x69 ∧ mu83 x49 x59 x69 < mu29 x4 x5 x6) x4 x5 x6) (hv83 : ∀ (x4 : Int32) (x5 : Int32) (x6 : Int32), I83 x4 x5 x6 → vs_L_isHidden_83 lgd ccc cac cfc clc cf bcc bac bfc blc bf lgf cnt call swf fnf fb fg p3 P (fun (x49 : Int32) (x59 : Int32) (x69 : Int32) => I29 x49 x59 x69 ∧ mu29 x49 x59 x69 < mu83 x4 x5 x6) (fun (x49 : Int32) (x59 : Int32) (x69 : Int32) => I83 x49 x59 x69 ∧ mu83 x49 x59 x69 < mu83 x4 x5 x6) x4 x5 x6) (he : ve_L_isHidden lgd ccc cac cfc clc cf bcc bac bfc blc bf lgf cnt call swf fnf fb fg p3 P I29 I83) : Met l yL_isHidden wsL_isHidden ({ frames := 5, cells := 0, slots := 0, locals := 106 } : Room) (ff_Pc D [(cI, .int)] [.ref xh, .ref qb, .ref qg, .int p3] ([(xh, .inr (4, [.ref ch, .ref bh, .ref lg, .int lgd, .ref sh, .ref vh])), (ch, .inr (0, [.ref ca, .int ccc, .int cac, .int cfc, .int clc])), (ca, .inl (cI, 10, .inl cf)), (bh, .inr (0, [.ref ba, .int bcc, .int bac, .int bfc, .int blc])), (ba, .inl (cI, 10, .inl bf)), (lg, .inl (cI, 12, .inl lgf)), (sh, .inr (2, [.ref sa, .int cnt, .int call])), (sa, .inl (cI, 12, .inl swf)), (vh, .inr (3, [.ref va])), (va, .inl (cI, 12, .inl fnf)), (qb, .inl (cI, 12, .inl fb)), (qg, .inl (cI, 3, .inl fg))] : va_W) sz) (va_Qi P (fun (u : Unit) t => ff_B D [(cI, .int)] (va_A ([(xh, .inr (4, [.ref ch, .ref bh, .ref lg, .int lgd, .ref sh, .ref vh])), (ch, .inr (0, [.ref ca, .int ccc, .int cac, .int cfc, .int clc])), (ca, .inl (cI, 10, .inl cf)), (bh, .inr (0, [.ref ba, .int bcc, .int bac, .int bfc, .int blc])), (ba, .inl (cI, 10, .inl bf)), (lg, .inl (cI, 12, .inl lgf)), (sh, .inr (2, [.ref sa, .int cnt, .int call])), (sa, .inl (cI, 12, .inl swf)), (vh, .inr (3, [.ref va])), (va, .inl (cI, 12, .inl fnf)), (qb, .inl (cI, 12, .inl fb)), (qg, .inl (cI, 3, .inl fg))] : va_W) sz) [(xh, .inr (4, [.ref ch, .ref bh, .ref lg, .int lgd, .ref sh, .ref vh])), (ch, .inr (0, [.ref ca, .int ccc, .int cac, .int cfc, .int clc])), (ca, .inl (cI, 10, .inl cf)), (bh, .inr (0, [.ref ba, .int bcc, .int bac, .int bfc, .int blc])), (ba, .inl (cI, 10, .inl bf)), (lg, .inl (cI, 12, .inl lgf)), (sh, .inr (2, [.ref sa, .int cnt, .int call])), (sa, .inl (cI, 12, .inl swf)), (vh, .inr (3, [.ref va])), (va, .inl (cI, 12, .inl fnf)), (qb, .inl (cI, 12, .inl fb)), (qg, .inl (cI, 3, .inl fg))] t) (va_A ([(xh, .inr (4, [.ref ch, .ref bh, .ref lg, .int lgd, .ref sh, .ref vh])), (ch, .inr (0, [.ref ca, .int ccc, .int cac, .int cfc, .int clc])), (ca, .inl (cI, 10, .inl cf)), (bh, .inr (0, [.ref ba, .int bcc, .int bac, .int bfc, .int blc])), (ba, .inl (cI, 10, .inl bf)), (lg, .inl (cI, 12, .inl lgf)), (sh, .inr (2, [.ref sa, .int cnt, .int call])), (sa, .inl (cI, 12, .inl swf)), (vh, .inr (3, [.ref va])), (va, .inl (cI, 12, .inl fnf)), (qb, .inl (cI, 12, .inl fb)), (qg, .inl (cI, 3, .inl fg))] : va_W) sz)) 0 0 (va_A ([(xh, .inr (4, [.ref ch, .ref bh, .ref lg, .int lgd, .ref sh, .ref vh])), (ch, .inr (0, [.ref ca, .int ccc, .int cac, .int cfc, .int clc])), (ca, .inl (cI, 10, .inl cf)), (bh, .inr (0, [.ref ba, .int bcc, .int bac, .int bfc, .int blc])), (ba, .inl (cI, 10, .inl bf)), (lg, .inl (cI, 12, .inl lgf)), (sh, .inr (2, [.ref sa, .int cnt, .int call])), (sa, .inl (cI, 12, .inl swf)), (vh, .inr (3, [.ref va])), (va, .inl (cI, 12, .inl fnf)), (qb, .inl (cI, 12, .inl fb)), (qg, .inl (cI, 3, .inl fg))] : va_W) sz) := by
  refine ff_metZ (Wf := (fun (u : Unit) => ([(xh, .inr (4, [.ref ch, .ref bh, .ref lg, .int lgd, .ref sh, .ref vh])), (ch, .inr (0, [.ref ca, .int ccc, .int cac, .int cfc, .int clc])), (ca, .inl (cI, 10, .inl cf)), (bh, .inr (0, [.ref ba, .int bcc, .int bac, .int bfc, .int blc])), (ba, .inl (cI, 10, .inl bf)), (lg, .inl (cI, 12, .inl lgf)), (sh, .inr (2, [.ref sa, .int cnt, .int call])), (sa, .inl (cI, 12, .inl swf)), (vh, .inr (3, [.ref va])), (va, .inl (cI, 12, .inl fnf)), (qb, .inl (cI, 12, .inl fb)), (qg, .inl (cI, 3, .inl fg))] : va_W))) (by decide +kernel) rfl (Nat.le_of_ble_eq_true rfl) ?_
  intro p e s m args below meth c A Q ls H hx hb hml hown hts hN hA hK hP hD hS hret hl
  have LL29 : ∀ (N : Nat), (∀ (x4 : Int32) (x5 : Int32) (x6 : Int32) (H : Heap) (locs : List Loc) (ls : Array Slot), I29 x4 x5 x6 → mu29 x4 x5 x6 < N → va_P D vwCl [(xh, .inr (4, [.ref ch, .ref bh, .ref lg, .int lgd, .ref sh, .ref vh])), (ch, .inr (0, [.ref ca, .int ccc, .int cac, .int cfc, .int clc])), (ca, .inl (cI, 10, .inl cf)), (bh, .inr (0, [.ref ba, .int bcc, .int bac, .int bfc, .int blc])), (ba, .inl (cI, 10, .inl bf)), (lg, .inl (cI, 12, .inl lgf)), (sh, .inr (2, [.ref sa, .int cnt, .int call])), (sa, .inl (cI, 12, .inl swf)), (vh, .inr (3, [.ref va])), (va, .inl (cI, 12, .inl fnf)), (qb, .inl (cI, 12, .inl fb)), (qg, .inl (cI, 3, .inl fg))] H → va_D A [(xh, .inr (4, [.ref ch, .ref bh, .ref lg, .int lgd, .ref sh, .ref vh])), (ch, .inr (0, [.ref ca, .int ccc, .int cac, .int cfc, .int clc])), (ca, .inl (cI, 10, .inl cf)), (bh, .inr (0, [.ref ba, .int bcc, .int bac, .int bfc, .int blc])), (ba, .inl (cI, 10, .inl bf)), (lg, .inl (cI, 12, .inl lgf)), (sh, .inr (2, [.ref sa, .int cnt, .int call])), (sa, .inl (cI, 12, .inl swf)), (vh, .inr (3, [.ref va])), (va, .inl (cI, 12, .inl fnf)), (qb, .inl (cI, 12, .inl fb)), (qg, .inl (cI, 3, .inl fg))] → va_S A s.heap H locs → lv_has ls 7 [(0, .ref xh), (1, .ref qb), (2, .ref qg), (3, .int p3), (4, .int x4), (5, .int x5), (6, .int x6)] → W p l e ({ frames := 5, cells := 0, slots := 0, locals := 106 } : Room) s m args below meth c H locs 0 0 Q (F0 m 29 ls [])) ∧ (∀ (x4 : Int32) (x5 : Int32) (x6 : Int32) (H : Heap) (locs : List Loc) (ls : Array Slot), I83 x4 x5 x6 → mu83 x4 x5 x6 < N → va_P D vwCl [(xh, .inr (4, [.ref ch, .ref bh, .ref lg, .int lgd, .ref sh, .ref vh])), (ch, .inr (0, [.ref ca, .int ccc, .int cac, .int cfc, .int clc])), (ca, .inl (cI, 10, .inl cf)), (bh, .inr (0, [.ref ba, .int bcc, .int bac, .int bfc, .int blc])), (ba, .inl (cI, 10, .inl bf)), (lg, .inl (cI, 12, .inl lgf)), (sh, .inr (2, [.ref sa, .int cnt, .int call])), (sa, .inl (cI, 12, .inl swf)), (vh, .inr (3, [.ref va])), (va, .inl (cI, 12, .inl fnf)), (qb, .inl (cI, 12, .inl fb)), (qg, .inl (cI, 3, .inl fg))] H → va_D A [(xh, .inr (4, [.ref ch, .ref bh, .ref lg, .int lgd, .ref sh, .ref vh])), (ch, .inr (0, [.ref ca, .int ccc, .int cac, .int cfc, .int clc])), (ca, .inl (cI, 10, .inl cf)), (bh, .inr (0, [.ref ba, .int bcc, .int bac, .int bfc, .int blc])), (ba, .inl (cI, 10, .inl bf)), (lg, .inl (cI, 12, .inl lgf)), (sh, .inr (2, [.ref sa, .int cnt, .int call])), (sa, .inl (cI, 12, .inl swf)), (vh, .inr (3, [.ref va])), (va, .inl (cI, 12, .inl fnf)), (qb, .inl (cI, 12, .inl fb)), (qg, .inl (cI, 3, .inl fg))] → va_S A s.heap H locs → lv_has ls 7 [(0, .ref xh), (1, .ref qb), (2, .ref qg), (3, .int p3), (4, .int x4), (5, .int x5), (6, .int x6)] → W p l e ({ frames := 5, cells := 0, slots := 0, locals := 106 } : Room) s m args below meth c H locs 0 0 Q (F0 m 83 ls [])) := by
    intro N
    induction N with
    | zero => exact ⟨by intros; rename_i hz _ _ _ _; exact absurd hz (Nat.not_lt_zero _), by intros; rename_i hz _ _ _ _; exact absurd hz (Nat.not_lt_zero _)⟩
    | succ N ih =>
      refine ⟨?_, ?_⟩
      · intro x4 x5 x6 H locs ls hI hmu hP hD hS hl
        have h := hv29 x4 x5 x6 hI
        unfold vs_L_isHidden_29 at h
        refine lv_iload hx hb dL_isHidden_29 (lv_at hl 6 rfl) ?_
        refine lv_aload_n hx hb dL_isHidden_31 rfl (lv_at hl 2 rfl) ?_
        refine lv_iconst (v := 0) hx hb dL_isHidden_32 (by decide) ?_
        refine ff_ialdK hx hb hK hP 11 0 rfl rfl (vp_in_nI (n := 0) (N := 3) (by decide) (by decide)) (k := 0) rfl dL_isHidden_33 ?_
        refine lv_aload_n hx hb dL_isHidden_34 rfl (lv_at hl 2 rfl) ?_
        refine lv_iconst (v := 1) hx hb dL_isHidden_35 (by decide) ?_
        refine ff_ialdK hx hb hK hP 11 0 rfl rfl (vp_in_nI (n := 1) (N := 3) (by decide) (by decide)) (k := 1) rfl dL_isHidden_36 ?_
        refine lv_imul hx hb dL_isHidden_37 ?_
        refine lv_icmp_ge (tgt := 108) hx hb dL_isHidden_38 (by decide) (fun c_1 => ?_) (fun c_1 => ?_)
        · have h := h.1 c_1
          refine lv_iload hx hb dL_isHidden_108 (lv_at hl 4 rfl) ?_
          refine lv_if_eq (tgt := 129) hx hb dL_isHidden_110 (by decide) (fun c_2 => ?_) (fun c_2 => ?_)
          · have h := h.1 c_2
            refine lv_iload hx hb dL_isHidden_129 (lv_at hl 5 rfl) ?_
            refine lv_if_ne (tgt := 142) hx hb dL_isHidden_131 (by decide) (fun c_3 => ?_) (fun c_3 => ?_)
            · have h := h.2 c_3
              refine lv_iconst (v := 1) hx hb dL_isHidden_142 (by decide) ?_
              refine lv_goto (tgt := 147) hx hb dL_isHidden_143 (by decide) ?_
              exact hret 1 () _ _ _ _ _ _ (by decide) h (hP.sub [0, 1, 2, 3, 4, 5, 6, 7, 8, 9, 10, 11] rfl) (hD.sub [0, 1, 2, 3, 4, 5, 6, 7, 8, 9, 10, 11] (by decide) rfl) hS (Nat.le_of_ble_eq_true rfl) (Nat.le_of_ble_eq_true rfl) dL_isHidden_147
            · have h := h.1 c_3
              refine lv_aload_n hx hb dL_isHidden_134 rfl (lv_at hl 0 rfl) ?_
              refine lv_iload_n hx hb dL_isHidden_135 rfl (lv_at hl 3 rfl) ?_
              obtain ⟨p_4, h⟩ := h
              have hPc := hP.sub (ws' := [(xh, .inr (4, [.ref ch, .ref bh, .ref lg, .int lgd, .ref sh, .ref vh])), (ch, .inr (0, [.ref ca, .int ccc, .int cac, .int cfc, .int clc])), (ca, .inl (cI, 10, .inl cf)), (bh, .inr (0, [.ref ba, .int bcc, .int bac, .int bfc, .int blc])), (ba, .inl (cI, 10, .inl bf)), (lg, .inl (cI, 12, .inl lgf)), (sh, .inr (2, [.ref sa, .int cnt, .int call])), (sa, .inl (cI, 12, .inl swf)), (vh, .inr (3, [.ref va])), (va, .inl (cI, 12, .inl fnf))]) [0, 1, 2, 3, 4, 5, 6, 7, 8, 9] rfl
              have hDc := hD.sub (ws' := [(xh, .inr (4, [.ref ch, .ref bh, .ref lg, .int lgd, .ref sh, .ref vh])), (ch, .inr (0, [.ref ca, .int ccc, .int cac, .int cfc, .int clc])), (ca, .inl (cI, 10, .inl cf)), (bh, .inr (0, [.ref ba, .int bcc, .int bac, .int bfc, .int blc])), (ba, .inl (cI, 10, .inl bf)), (lg, .inl (cI, 12, .inl lgf)), (sh, .inr (2, [.ref sa, .int cnt, .int call])), (sa, .inl (cI, 12, .inl swf)), (vh, .inr (3, [.ref va])), (va, .inl (cI, 12, .inl fnf))]) [0, 1, 2, 3, 4, 5, 6, 7, 8, 9] (by decide) rfl
              refine ff_callI (va_runV (As := [.int p3]) (rest := []) ⟨hx, hb, hml, hown, hts⟩ (c_X4_isHiddenN l D cI xh ch ca bh ba lg sh sa vh va H.size lgd ccc cac cfc clc cf bcc bac bfc blc bf lgf cnt call swf fnf p3 p_4) (cwV 1 hts gL_isHidden_X4_isHidden rfl rfl rfl (by decide +kernel) ⟨Nat.le_of_ble_eq_true rfl, Nat.le_of_ble_eq_true rfl⟩) (ff_preV (q := (RX4, TX4, 6)) (ci := 4) (q0 := 0) hPc hK hDc hN rfl rfl) rfl rfl hl.1 rfl (lv_room (Nat.le_of_ble_eq_true rfl)) dL_isHidden_136 ⟨Nat.le_of_ble_eq_true rfl, Nat.le_of_ble_eq_true rfl⟩) hP hD hS hA [0, 1, 2, 3, 4, 5, 6, 7, 8, 9] [10, 11] (wr := [(qb, .inl (cI, 12, .inl fb)), (qg, .inl (cI, 3, .inl fg))]) rfl rfl (by decide) (by decide) (fun r u H locs hw hP hD hS => ?_)
              replace hw := hw.symm
              subst hw
              have hP : va_P D vwCl [(qb, .inl (cI, 12, .inl fb)), (qg, .inl (cI, 3, .inl fg)), (xh, .inr (4, [.ref ch, .ref bh, .ref lg, .int lgd, .ref sh, .ref vh])), (ch, .inr (0, [.ref ca, .int ccc, .int cac, .int cfc, .int clc])), (ca, .inl (cI, 10, .inl cf)), (bh, .inr (0, [.ref ba, .int bcc, .int bac, .int bfc, .int blc])), (ba, .inl (cI, 10, .inl bf)), (lg, .inl (cI, 12, .inl lgf)), (sh, .inr (2, [.ref sa, .int cnt, .int call])), (sa, .inl (cI, 12, .inl swf)), (vh, .inr (3, [.ref va])), (va, .inl (cI, 12, .inl fnf))] H := hP
              have hD : va_D A [(qb, .inl (cI, 12, .inl fb)), (qg, .inl (cI, 3, .inl fg)), (xh, .inr (4, [.ref ch, .ref bh, .ref lg, .int lgd, .ref sh, .ref vh])), (ch, .inr (0, [.ref ca, .int ccc, .int cac, .int cfc, .int clc])), (ca, .inl (cI, 10, .inl cf)), (bh, .inr (0, [.ref ba, .int bcc, .int bac, .int bfc, .int blc])), (ba, .inl (cI, 10, .inl bf)), (lg, .inl (cI, 12, .inl lgf)), (sh, .inr (2, [.ref sa, .int cnt, .int call])), (sa, .inl (cI, 12, .inl swf)), (vh, .inr (3, [.ref va])), (va, .inl (cI, 12, .inl fnf))] := hD
              refine lv_if_eq (tgt := 146) hx hb dL_isHidden_139 (by decide) (fun c_5 => ?_) (fun c_5 => ?_)
              · have h := h.1 c_5
                refine lv_iconst (v := 0) hx hb dL_isHidden_146 (by decide) ?_
                exact hret 0 () _ _ _ _ _ _ (by decide) h (hP.sub [2, 3, 4, 5, 6, 7, 8, 9, 10, 11, 0, 1] rfl) (hD.sub [2, 3, 4, 5, 6, 7, 8, 9, 10, 11, 0, 1] (by decide) rfl) hS (Nat.le_of_ble_eq_true rfl) (Nat.le_of_ble_eq_true rfl) dL_isHidden_147
              · have h := h.2 c_5
                refine lv_iconst (v := 1) hx hb dL_isHidden_142 (by decide) ?_
                refine lv_goto (tgt := 147) hx hb dL_isHidden_143 (by decide) ?_
                exact hret 1 () _ _ _ _ _ _ (by decide) h (hP.sub [2, 3, 4, 5, 6, 7, 8, 9, 10, 11, 0, 1] rfl) (hD.sub [2, 3, 4, 5, 6, 7, 8, 9, 10, 11, 0, 1] (by decide) rfl) hS (Nat.le_of_ble_eq_true rfl) (Nat.le_of_ble_eq_true rfl) dL_isHidden_147
          · have h := h.2 c_2
            refine lv_aload_n hx hb dL_isHidden_113 rfl (lv_at hl 0 rfl) ?_
            refine lv_iload_n hx hb dL_isHidden_114 rfl (lv_at hl 3 rfl) ?_
            obtain ⟨p_6, h⟩ := h
            have hPc := hP.sub (ws' := [(xh, .inr (4, [.ref ch, .ref bh, .ref lg, .int lgd, .ref sh, .ref vh])), (ch, .inr (0, [.ref ca, .int ccc, .int cac, .int cfc, .int clc])), (ca, .inl (cI, 10, .inl cf)), (bh, .inr (0, [.ref ba, .int bcc, .int bac, .int bfc, .int blc])), (ba, .inl (cI, 10, .inl bf)), (lg, .inl (cI, 12, .inl lgf)), (sh, .inr (2, [.ref sa, .int cnt, .int call])), (sa, .inl (cI, 12, .inl swf)), (vh, .inr (3, [.ref va])), (va, .inl (cI, 12, .inl fnf))]) [0, 1, 2, 3, 4, 5, 6, 7, 8, 9] rfl
            have hDc := hD.sub (ws' := [(xh, .inr (4, [.ref ch, .ref bh, .ref lg, .int lgd, .ref sh, .ref vh])), (ch, .inr (0, [.ref ca, .int ccc, .int cac, .int cfc, .int clc])), (ca, .inl (cI, 10, .inl cf)), (bh, .inr (0, [.ref ba, .int bcc, .int bac, .int bfc, .int blc])), (ba, .inl (cI, 10, .inl bf)), (lg, .inl (cI, 12, .inl lgf)), (sh, .inr (2, [.ref sa, .int cnt, .int call])), (sa, .inl (cI, 12, .inl swf)), (vh, .inr (3, [.ref va])), (va, .inl (cI, 12, .inl fnf))]) [0, 1, 2, 3, 4, 5, 6, 7, 8, 9] (by decide) rfl
            refine ff_callI (va_runV (As := [.int p3]) (rest := []) ⟨hx, hb, hml, hown, hts⟩ (c_X4_isHiddenN l D cI xh ch ca bh ba lg sh sa vh va H.size lgd ccc cac cfc clc cf bcc bac bfc blc bf lgf cnt call swf fnf p3 p_6) (cwV 1 hts gL_isHidden_X4_isHidden rfl rfl rfl (by decide +kernel) ⟨Nat.le_of_ble_eq_true rfl, Nat.le_of_ble_eq_true rfl⟩) (ff_preV (q := (RX4, TX4, 6)) (ci := 4) (q0 := 0) hPc hK hDc hN rfl rfl) rfl rfl hl.1 rfl (lv_room (Nat.le_of_ble_eq_true rfl)) dL_isHidden_115 ⟨Nat.le_of_ble_eq_true rfl, Nat.le_of_ble_eq_true rfl⟩) hP hD hS hA [0, 1, 2, 3, 4, 5, 6, 7, 8, 9] [10, 11] (wr := [(qb, .inl (cI, 12, .inl fb)), (qg, .inl (cI, 3, .inl fg))]) rfl rfl (by decide) (by decide) (fun r u H locs hw hP hD hS => ?_)
            replace hw := hw.symm
            subst hw
            have hP : va_P D vwCl [(qb, .inl (cI, 12, .inl fb)), (qg, .inl (cI, 3, .inl fg)), (xh, .inr (4, [.ref ch, .ref bh, .ref lg, .int lgd, .ref sh, .ref vh])), (ch, .inr (0, [.ref ca, .int ccc, .int cac, .int cfc, .int clc])), (ca, .inl (cI, 10, .inl cf)), (bh, .inr (0, [.ref ba, .int bcc, .int bac, .int bfc, .int blc])), (ba, .inl (cI, 10, .inl bf)), (lg, .inl (cI, 12, .inl lgf)), (sh, .inr (2, [.ref sa, .int cnt, .int call])), (sa, .inl (cI, 12, .inl swf)), (vh, .inr (3, [.ref va])), (va, .inl (cI, 12, .inl fnf))] H := hP
            have hD : va_D A [(qb, .inl (cI, 12, .inl fb)), (qg, .inl (cI, 3, .inl fg)), (xh, .inr (4, [.ref ch, .ref bh, .ref lg, .int lgd, .ref sh, .ref vh])), (ch, .inr (0, [.ref ca, .int ccc, .int cac, .int cfc, .int clc])), (ca, .inl (cI, 10, .inl cf)), (bh, .inr (0, [.ref ba, .int bcc, .int bac, .int bfc, .int blc])), (ba, .inl (cI, 10, .inl bf)), (lg, .inl (cI, 12, .inl lgf)), (sh, .inr (2, [.ref sa, .int cnt, .int call])), (sa, .inl (cI, 12, .inl swf)), (vh, .inr (3, [.ref va])), (va, .inl (cI, 12, .inl fnf))] := hD
            refine lv_if_ne (tgt := 125) hx hb dL_isHidden_118 (by decide) (fun c_7 => ?_) (fun c_7 => ?_)
            · have h := h.2 c_7
              refine lv_iconst (v := 0) hx hb dL_isHidden_125 (by decide) ?_
              refine lv_goto (tgt := 147) hx hb dL_isHidden_126 (by decide) ?_
              exact hret 0 () _ _ _ _ _ _ (by decide) h (hP.sub [2, 3, 4, 5, 6, 7, 8, 9, 10, 11, 0, 1] rfl) (hD.sub [2, 3, 4, 5, 6, 7, 8, 9, 10, 11, 0, 1] (by decide) rfl) hS (Nat.le_of_ble_eq_true rfl) (Nat.le_of_ble_eq_true rfl) dL_isHidden_147
            · have h := h.1 c_7
              refine lv_iconst (v := 1) hx hb dL_isHidden_121 (by decide) ?_
              refine lv_goto (tgt := 147) hx hb dL_isHidden_122 (by decide) ?_
              exact hret 1 () _ _ _ _ _ _ (by decide) h (hP.sub [2, 3, 4, 5, 6, 7, 8, 9, 10, 11, 0, 1] rfl) (hD.sub [2, 3, 4, 5, 6, 7, 8, 9, 10, 11, 0, 1] (by decide) rfl) hS (Nat.le_of_ble_eq_true rfl) (Nat.le_of_ble_eq_true rfl) dL_isHidden_147
        · have h := h.2 c_1
          refine lv_aload_n hx hb dL_isHidden_41 rfl (lv_at hl 2 rfl) ?_
          refine lv_iload hx hb dL_isHidden_42 (lv_at hl 6 rfl) ?_
          refine lv_iload_n hx hb dL_isHidden_44 rfl (lv_at hl 3 rfl) ?_
          obtain ⟨p_8, h⟩ := h
          have hPc := hP.sub (ws' := [(qg, .inl (cI, 3, .inl fg))]) [11] rfl
          have hDc := hD.sub (ws' := [(qg, .inl (cI, 3, .inl fg))]) [11] (by decide) rfl
          refine ff_callI (va_runS (As := [.ref qg, .int x6, .int p3]) (rest := []) ⟨hx, hb, hml, hown, hts⟩ (c_L_areNext l D cI qg H.size fg x6 p3 p_8) (va_cwS 3 hts gL_isHidden_L_areNext rfl rfl rfl (by decide +kernel) ⟨Nat.le_of_ble_eq_true rfl, Nat.le_of_ble_eq_true rfl⟩) (ff_preS hPc hK hDc hN) rfl rfl hl.1 rfl (lv_room (Nat.le_of_ble_eq_true rfl)) dL_isHidden_45 ⟨Nat.le_of_ble_eq_true rfl, Nat.le_of_ble_eq_true rfl⟩) hP hD hS hA [11] [0, 1, 2, 3, 4, 5, 6, 7, 8, 9, 10] (wr := [(xh, .inr (4, [.ref ch, .ref bh, .ref lg, .int lgd, .ref sh, .ref vh])), (ch, .inr (0, [.ref ca, .int ccc, .int cac, .int cfc, .int clc])), (ca, .inl (cI, 10, .inl cf)), (bh, .inr (0, [.ref ba, .int bcc, .int bac, .int bfc, .int blc])), (ba, .inl (cI, 10, .inl bf)), (lg, .inl (cI, 12, .inl lgf)), (sh, .inr (2, [.ref sa, .int cnt, .int call])), (sa, .inl (cI, 12, .inl swf)), (vh, .inr (3, [.ref va])), (va, .inl (cI, 12, .inl fnf)), (qb, .inl (cI, 12, .inl fb))]) rfl rfl (by decide) (by decide) (fun r u H locs hw hP hD hS => ?_)
          replace hw := hw.symm
          subst hw
          have hP : va_P D vwCl [(xh, .inr (4, [.ref ch, .ref bh, .ref lg, .int lgd, .ref sh, .ref vh])), (ch, .inr (0, [.ref ca, .int ccc, .int cac, .int cfc, .int clc])), (ca, .inl (cI, 10, .inl cf)), (bh, .inr (0, [.ref ba, .int bcc, .int bac, .int bfc, .int blc])), (ba, .inl (cI, 10, .inl bf)), (lg, .inl (cI, 12, .inl lgf)), (sh, .inr (2, [.ref sa, .int cnt, .int call])), (sa, .inl (cI, 12, .inl swf)), (vh, .inr (3, [.ref va])), (va, .inl (cI, 12, .inl fnf)), (qb, .inl (cI, 12, .inl fb)), (qg, .inl (cI, 3, .inl fg))] H := hP
          have hD : va_D A [(xh, .inr (4, [.ref ch, .ref bh, .ref lg, .int lgd, .ref sh, .ref vh])), (ch, .inr (0, [.ref ca, .int ccc, .int cac, .int cfc, .int clc])), (ca, .inl (cI, 10, .inl cf)), (bh, .inr (0, [.ref ba, .int bcc, .int bac, .int bfc, .int blc])), (ba, .inl (cI, 10, .inl bf)), (lg, .inl (cI, 12, .inl lgf)), (sh, .inr (2, [.ref sa, .int cnt, .int call])), (sa, .inl (cI, 12, .inl swf)), (vh, .inr (3, [.ref va])), (va, .inl (cI, 12, .inl fnf)), (qb, .inl (cI, 12, .inl fb)), (qg, .inl (cI, 3, .inl fg))] := hD
          refine lv_if_eq (tgt := 102) hx hb dL_isHidden_48 (by decide) (fun c_9 => ?_) (fun c_9 => ?_)
          · have h := h.1 c_9
            obtain ⟨y_10, ey_10⟩ : ∃ y : Int32, y = x6 + 1 := ⟨_, rfl⟩
            have h := h y_10 ey_10
            refine lv_iinc (v := y_10) (lv' := [(6, .int y_10), (0, .ref xh), (1, .ref qb), (2, .ref qg), (3, .int p3), (4, .int x4), (5, .int x5)]) hx hb dL_isHidden_102 hl (k := 6) rfl (by rw [ey_10]; rfl) (by decide) rfl (fun ls hl => ?_)
            refine lv_goto (tgt := 29) hx hb dL_isHidden_105 (by decide) ?_
            exact ih.1 _ _ _ _ _ _ h.1 (Nat.lt_of_lt_of_le h.2 (Nat.le_of_lt_succ hmu)) (hP.sub [0, 1, 2, 3, 4, 5, 6, 7, 8, 9, 10, 11] rfl) (hD.sub [0, 1, 2, 3, 4, 5, 6, 7, 8, 9, 10, 11] (by decide) rfl) hS (lv_sub hl [1, 2, 3, 4, 5, 6, 0] rfl)
          · have h := h.2 c_9
            refine lv_iload hx hb dL_isHidden_51 (lv_at hl 4 rfl) ?_
            refine lv_if_ne (tgt := 76) hx hb dL_isHidden_53 (by decide) (fun c_11 => ?_) (fun c_11 => ?_)
            · have h := h.2 c_11
              refine lv_iconst (v := 1) hx hb dL_isHidden_76 (by decide) ?_
              refine lv_goto (tgt := 81) hx hb dL_isHidden_77 (by decide) ?_
              refine lv_istore (lv' := [(4, .int 1), (0, .ref xh), (1, .ref qb), (2, .ref qg), (3, .int p3), (5, .int x5), (6, .int x6)]) hx hb dL_isHidden_81 hl (by decide) rfl (fun ls hl => ?_)
              exact ih.2 _ _ _ _ _ _ h.1 (Nat.lt_of_lt_of_le h.2 (Nat.le_of_lt_succ hmu)) (hP.sub [0, 1, 2, 3, 4, 5, 6, 7, 8, 9, 10, 11] rfl) (hD.sub [0, 1, 2, 3, 4, 5, 6, 7, 8, 9, 10, 11] (by decide) rfl) hS (lv_sub hl [1, 2, 3, 4, 0, 5, 6] rfl)
            · have h := h.1 c_11
              refine lv_aload_n hx hb dL_isHidden_56 rfl (lv_at hl 1 rfl) ?_
              refine lv_iload hx hb dL_isHidden_57 (lv_at hl 6 rfl) ?_
              obtain ⟨i_12, h⟩ := h
              refine va_iald hx hb hK hP 10 0 rfl rfl i_12 dL_isHidden_59 ?_
              refine lv_if_le (tgt := 80) hx hb dL_isHidden_60 (by decide) (fun c_13 => ?_) (fun c_13 => ?_)
              · have h := h.1 c_13
                refine lv_iconst (v := 0) hx hb dL_isHidden_80 (by decide) ?_
                refine lv_istore (lv' := [(4, .int 0), (0, .ref xh), (1, .ref qb), (2, .ref qg), (3, .int p3), (5, .int x5), (6, .int x6)]) hx hb dL_isHidden_81 hl (by decide) rfl (fun ls hl => ?_)
                exact ih.2 _ _ _ _ _ _ h.1 (Nat.lt_of_lt_of_le h.2 (Nat.le_of_lt_succ hmu)) (hP.sub [0, 1, 2, 3, 4, 5, 6, 7, 8, 9, 10, 11] rfl) (hD.sub [0, 1, 2, 3, 4, 5, 6, 7, 8, 9, 10, 11] (by decide) rfl) hS (lv_sub hl [1, 2, 3, 4, 0, 5, 6] rfl)
              · have h := h.2 c_13
                refine lv_aload_n hx hb dL_isHidden_63 rfl (lv_at hl 0 rfl) ?_
                refine lv_iload hx hb dL_isHidden_64 (lv_at hl 6 rfl) ?_
                obtain ⟨p_14, h⟩ := h
                have hPc := hP.sub (ws' := [(xh, .inr (4, [.ref ch, .ref bh, .ref lg, .int lgd, .ref sh, .ref vh])), (ch, .inr (0, [.ref ca, .int ccc, .int cac, .int cfc, .int clc])), (ca, .inl (cI, 10, .inl cf)), (bh, .inr (0, [.ref ba, .int bcc, .int bac, .int bfc, .int blc])), (ba, .inl (cI, 10, .inl bf)), (lg, .inl (cI, 12, .inl lgf)), (sh, .inr (2, [.ref sa, .int cnt, .int call])), (sa, .inl (cI, 12, .inl swf)), (vh, .inr (3, [.ref va])), (va, .inl (cI, 12, .inl fnf))]) [0, 1, 2, 3, 4, 5, 6, 7, 8, 9] rfl
                have hDc := hD.sub (ws' := [(xh, .inr (4, [.ref ch, .ref bh, .ref lg, .int lgd, .ref sh, .ref vh])), (ch, .inr (0, [.ref ca, .int ccc, .int cac, .int cfc, .int clc])), (ca, .inl (cI, 10, .inl cf)), (bh, .inr (0, [.ref ba, .int bcc, .int bac, .int bfc, .int blc])), (ba, .inl (cI, 10, .inl bf)), (lg, .inl (cI, 12, .inl lgf)), (sh, .inr (2, [.ref sa, .int cnt, .int call])), (sa, .inl (cI, 12, .inl swf)), (vh, .inr (3, [.ref va])), (va, .inl (cI, 12, .inl fnf))]) [0, 1, 2, 3, 4, 5, 6, 7, 8, 9] (by decide) rfl
                refine ff_callI (va_runV (As := [.int x6]) (rest := []) ⟨hx, hb, hml, hown, hts⟩ (c_X4_sizeN l D cI xh ch ca bh ba lg sh sa vh va H.size lgd ccc cac cfc clc cf bcc bac bfc blc bf lgf cnt call swf fnf x6 p_14) (cwV 1 hts gL_isHidden_X4_size rfl rfl rfl (by decide +kernel) ⟨Nat.le_of_ble_eq_true rfl, Nat.le_of_ble_eq_true rfl⟩) (ff_preV (q := (RX4, TX4, 6)) (ci := 4) (q0 := 0) hPc hK hDc hN rfl rfl) rfl rfl hl.1 rfl (lv_room (Nat.le_of_ble_eq_true rfl)) dL_isHidden_66 ⟨Nat.le_of_ble_eq_true rfl, Nat.le_of_ble_eq_true rfl⟩) hP hD hS hA [0, 1, 2, 3, 4, 5, 6, 7, 8, 9] [10, 11] (wr := [(qb, .inl (cI, 12, .inl fb)), (qg, .inl (cI, 3, .inl fg))]) rfl rfl (by decide) (by decide) (fun r u H locs hw hP hD hS => ?_)
                replace hw := hw.symm
                subst hw
                have hP : va_P D vwCl [(qb, .inl (cI, 12, .inl fb)), (qg, .inl (cI, 3, .inl fg)), (xh, .inr (4, [.ref ch, .ref bh, .ref lg, .int lgd, .ref sh, .ref vh])), (ch, .inr (0, [.ref ca, .int ccc, .int cac, .int cfc, .int clc])), (ca, .inl (cI, 10, .inl cf)), (bh, .inr (0, [.ref ba, .int bcc, .int bac, .int bfc, .int blc])), (ba, .inl (cI, 10, .inl bf)), (lg, .inl (cI, 12, .inl lgf)), (sh, .inr (2, [.ref sa, .int cnt, .int call])), (sa, .inl (cI, 12, .inl swf)), (vh, .inr (3, [.ref va])), (va, .inl (cI, 12, .inl fnf))] H := hP
                have hD : va_D A [(qb, .inl (cI, 12, .inl fb)), (qg, .inl (cI, 3, .inl fg)), (xh, .inr (4, [.ref ch, .ref bh, .ref lg, .int lgd, .ref sh, .ref vh])), (ch, .inr (0, [.ref ca, .int ccc, .int cac, .int cfc, .int clc])), (ca, .inl (cI, 10, .inl cf)), (bh, .inr (0, [.ref ba, .int bcc, .int bac, .int bfc, .int blc])), (ba, .inl (cI, 10, .inl bf)), (lg, .inl (cI, 12, .inl lgf)), (sh, .inr (2, [.ref sa, .int cnt, .int call])), (sa, .inl (cI, 12, .inl swf)), (vh, .inr (3, [.ref va])), (va, .inl (cI, 12, .inl fnf))] := hD
                refine lv_aload_n hx hb dL_isHidden_69 rfl (lv_at hl 1 rfl) ?_
                refine lv_iload hx hb dL_isHidden_70 (lv_at hl 6 rfl) ?_
                obtain ⟨i_15, h⟩ := h
                refine va_iald hx hb hK hP 0 0 rfl rfl i_15 dL_isHidden_72 ?_
                refine lv_icmp_ge (tgt := 80) hx hb dL_isHidden_73 (by decide) (fun c_16 => ?_) (fun c_16 => ?_)
                · have h := h.1 c_16
                  refine lv_iconst (v := 0) hx hb dL_isHidden_80 (by decide) ?_
                  refine lv_istore (lv' := [(4, .int 0), (0, .ref xh), (1, .ref qb), (2, .ref qg), (3, .int p3), (5, .int x5), (6, .int x6)]) hx hb dL_isHidden_81 hl (by decide) rfl (fun ls hl => ?_)
                  exact ih.2 _ _ _ _ _ _ h.1 (Nat.lt_of_lt_of_le h.2 (Nat.le_of_lt_succ hmu)) (hP.sub [2, 3, 4, 5, 6, 7, 8, 9, 10, 11, 0, 1] rfl) (hD.sub [2, 3, 4, 5, 6, 7, 8, 9, 10, 11, 0, 1] (by decide) rfl) hS (lv_sub hl [1, 2, 3, 4, 0, 5, 6] rfl)
                · have h := h.2 c_16
                  refine lv_iconst (v := 1) hx hb dL_isHidden_76 (by decide) ?_
                  refine lv_goto (tgt := 81) hx hb dL_isHidden_77 (by decide) ?_
                  refine lv_istore (lv' := [(4, .int 1), (0, .ref xh), (1, .ref qb), (2, .ref qg), (3, .int p3), (5, .int x5), (6, .int x6)]) hx hb dL_isHidden_81 hl (by decide) rfl (fun ls hl => ?_)
                  exact ih.2 _ _ _ _ _ _ h.1 (Nat.lt_of_lt_of_le h.2 (Nat.le_of_lt_succ hmu)) (hP.sub [2, 3, 4, 5, 6, 7, 8, 9, 10, 11, 0, 1] rfl) (hD.sub [2, 3, 4, 5, 6, 7, 8, 9, 10, 11, 0, 1] (by decide) rfl) hS (lv_sub hl [1, 2, 3, 4, 0, 5, 6] rfl)
      · intro x4 x5 x6 H locs ls hI hmu hP hD hS hl
        have h := hv83 x4 x5 x6 hI
        unfold vs_L_isHidden_83 at h
        refine lv_iload hx hb dL_isHidden_83 (lv_at hl 5 rfl) ?_
        refine lv_if_ne (tgt := 95) hx hb dL_isHidden_85 (by decide) (fun c_17 => ?_) (fun c_17 => ?_)
        · have h := h.2 c_17
          refine lv_iconst (v := 1) hx hb dL_isHidden_95 (by decide) ?_
          refine lv_goto (tgt := 100) hx hb dL_isHidden_96 (by decide) ?_
          refine lv_istore (lv' := [(5, .int 1), (0, .ref xh), (1, .ref qb), (2, .ref qg), (3, .int p3), (4, .int x4), (6, .int x6)]) hx hb dL_isHidden_100 hl (by decide) rfl (fun ls hl => ?_)
          obtain ⟨y_18, ey_18⟩ : ∃ y : Int32, y = x6 + 1 := ⟨_, rfl⟩
          have h := h y_18 ey_18
          refine lv_iinc (v := y_18) (lv' := [(6, .int y_18), (5, .int 1), (0, .ref xh), (1, .ref qb), (2, .ref qg), (3, .int p3), (4, .int x4)]) hx hb dL_isHidden_102 hl (k := 6) rfl (by rw [ey_18]; rfl) (by decide) rfl (fun ls hl => ?_)
          refine lv_goto (tgt := 29) hx hb dL_isHidden_105 (by decide) ?_
          exact ih.1 _ _ _ _ _ _ h.1 (Nat.lt_of_lt_of_le h.2 (Nat.le_of_lt_succ hmu)) (hP.sub [0, 1, 2, 3, 4, 5, 6, 7, 8, 9, 10, 11] rfl) (hD.sub [0, 1, 2, 3, 4, 5, 6, 7, 8, 9, 10, 11] (by decide) rfl) hS (lv_sub hl [2, 3, 4, 5, 6, 1, 0] rfl)
        · have h := h.1 c_17
          refine lv_aload_n hx hb dL_isHidden_88 rfl (lv_at hl 1 rfl) ?_
          refine lv_iload hx hb dL_isHidden_89 (lv_at hl 6 rfl) ?_
          obtain ⟨i_19, h⟩ := h
          refine va_iald hx hb hK hP 10 0 rfl rfl i_19 dL_isHidden_91 ?_
          refine lv_if_ne (tgt := 99) hx hb dL_isHidden_92 (by decide) (fun c_20 => ?_) (fun c_20 => ?_)
          · have h := h.2 c_20
            refine lv_iconst (v := 0) hx hb dL_isHidden_99 (by decide) ?_
            refine lv_istore (lv' := [(5, .int 0), (0, .ref xh), (1, .ref qb), (2, .ref qg), (3, .int p3), (4, .int x4), (6, .int x6)]) hx hb dL_isHidden_100 hl (by decide) rfl (fun ls hl => ?_)
            obtain ⟨y_21, ey_21⟩ : ∃ y : Int32, y = x6 + 1 := ⟨_, rfl⟩
            have h := h y_21 ey_21
            refine lv_iinc (v := y_21) (lv' := [(6, .int y_21), (5, .int 0), (0, .ref xh), (1, .ref qb), (2, .ref qg), (3, .int p3), (4, .int x4)]) hx hb dL_isHidden_102 hl (k := 6) rfl (by rw [ey_21]; rfl) (by decide) rfl (fun ls hl => ?_)
            refine lv_goto (tgt := 29) hx hb dL_isHidden_105 (by decide) ?_
            exact ih.1 _ _ _ _ _ _ h.1 (Nat.lt_of_lt_of_le h.2 (Nat.le_of_lt_succ hmu)) (hP.sub [0, 1, 2, 3, 4, 5, 6, 7, 8, 9, 10, 11] rfl) (hD.sub [0, 1, 2, 3, 4, 5, 6, 7, 8, 9, 10, 11] (by decide) rfl) hS (lv_sub hl [2, 3, 4, 5, 6, 1, 0] rfl)
          · have h := h.1 c_20
            refine lv_iconst (v := 1) hx hb dL_isHidden_95 (by decide) ?_
            refine lv_goto (tgt := 100) hx hb dL_isHidden_96 (by decide) ?_
            refine lv_istore (lv' := [(5, .int 1), (0, .ref xh), (1, .ref qb), (2, .ref qg), (3, .int p3), (4, .int x4), (6, .int x6)]) hx hb dL_isHidden_100 hl (by decide) rfl (fun ls hl => ?_)
            obtain ⟨y_22, ey_22⟩ : ∃ y : Int32, y = x6 + 1 := ⟨_, rfl⟩
            have h := h y_22 ey_22
            refine lv_iinc (v := y_22) (lv' := [(6, .int y_22), (5, .int 1), (0, .ref xh), (1, .ref qb), (2, .ref qg), (3, .int p3), (4, .int x4)]) hx hb dL_isHidden_102 hl (k := 6) rfl (by rw [ey_22]; rfl) (by decide) rfl (fun ls hl => ?_)
            refine lv_goto (tgt := 29) hx hb dL_isHidden_105 (by decide) ?_
            exact ih.1 _ _ _ _ _ _ h.1 (Nat.lt_of_lt_of_le h.2 (Nat.le_of_lt_succ hmu)) (hP.sub [0, 1, 2, 3, 4, 5, 6, 7, 8, 9, 10, 11] rfl) (hD.sub [0, 1, 2, 3, 4, 5, 6, 7, 8, 9, 10, 11] (by decide) rfl) hS (lv_sub hl [2, 3, 4, 5, 6, 1, 0] rfl)
  have L29 := fun N => (LL29 N).1
  have L83 := fun N => (LL29 N).2
  have h := he
  unfold ve_L_isHidden at h
  have hl : lv_has ls 7 [(0, .ref xh), (1, .ref qb), (2, .ref qg), (3, .int p3)] := hl
  refine lv_aload_n hx hb dL_isHidden_0 rfl (lv_at hl 1 rfl) ?_
  refine lv_iload_n hx hb dL_isHidden_1 rfl (lv_at hl 3 rfl) ?_
  obtain ⟨i_23, h⟩ := h
  refine va_iald hx hb hK hP 10 0 rfl rfl i_23 dL_isHidden_2 ?_
  refine lv_if_le (tgt := 20) hx hb dL_isHidden_3 (by decide) (fun c_24 => ?_) (fun c_24 => ?_)
  · have h := h.1 c_24
    refine lv_iconst (v := 0) hx hb dL_isHidden_20 (by decide) ?_
    refine lv_istore (lv' := [(4, .int 0), (0, .ref xh), (1, .ref qb), (2, .ref qg), (3, .int p3)]) hx hb dL_isHidden_21 hl (by decide) rfl (fun ls hl => ?_)
    refine lv_iconst (v := 0) hx hb dL_isHidden_23 (by decide) ?_
    refine lv_istore (lv' := [(5, .int 0), (4, .int 0), (0, .ref xh), (1, .ref qb), (2, .ref qg), (3, .int p3)]) hx hb dL_isHidden_24 hl (by decide) rfl (fun ls hl => ?_)
    refine lv_iconst (v := 0) hx hb dL_isHidden_26 (by decide) ?_
    refine lv_istore (lv' := [(6, .int 0), (5, .int 0), (4, .int 0), (0, .ref xh), (1, .ref qb), (2, .ref qg), (3, .int p3)]) hx hb dL_isHidden_27 hl (by decide) rfl (fun ls hl => ?_)
    exact L29 _ _ _ _ _ _ _ h (Nat.lt_succ_self _) (hP.sub [0, 1, 2, 3, 4, 5, 6, 7, 8, 9, 10, 11] rfl) (hD.sub [0, 1, 2, 3, 4, 5, 6, 7, 8, 9, 10, 11] (by decide) rfl) hS (lv_sub hl [3, 4, 5, 6, 2, 1, 0] rfl)
  · have h := h.2 c_24
    refine lv_aload_n hx hb dL_isHidden_6 rfl (lv_at hl 0 rfl) ?_
    refine lv_iload_n hx hb dL_isHidden_7 rfl (lv_at hl 3 rfl) ?_
    obtain ⟨p_25, h⟩ := h
    have hPc := hP.sub (ws' := [(xh, .inr (4, [.ref ch, .ref bh, .ref lg, .int lgd, .ref sh, .ref vh])), (ch, .inr (0, [.ref ca, .int ccc, .int cac, .int cfc, .int clc])), (ca, .inl (cI, 10, .inl cf)), (bh, .inr (0, [.ref ba, .int bcc, .int bac, .int bfc, .int blc])), (ba, .inl (cI, 10, .inl bf)), (lg, .inl (cI, 12, .inl lgf)), (sh, .inr (2, [.ref sa, .int cnt, .int call])), (sa, .inl (cI, 12, .inl swf)), (vh, .inr (3, [.ref va])), (va, .inl (cI, 12, .inl fnf))]) [0, 1, 2, 3, 4, 5, 6, 7, 8, 9] rfl
    have hDc := hD.sub (ws' := [(xh, .inr (4, [.ref ch, .ref bh, .ref lg, .int lgd, .ref sh, .ref vh])), (ch, .inr (0, [.ref ca, .int ccc, .int cac, .int cfc, .int clc])), (ca, .inl (cI, 10, .inl cf)), (bh, .inr (0, [.ref ba, .int bcc, .int bac, .int bfc, .int blc])), (ba, .inl (cI, 10, .inl bf)), (lg, .inl (cI, 12, .inl lgf)), (sh, .inr (2, [.ref sa, .int cnt, .int call])), (sa, .inl (cI, 12, .inl swf)), (vh, .inr (3, [.ref va])), (va, .inl (cI, 12, .inl fnf))]) [0, 1, 2, 3, 4, 5, 6, 7, 8, 9] (by decide) rfl
    refine ff_callI (va_runV (As := [.int p3]) (rest := []) ⟨hx, hb, hml, hown, hts⟩ (c_X4_isHiddenN l D cI xh ch ca bh ba lg sh sa vh va H.size lgd ccc cac cfc clc cf bcc bac bfc blc bf lgf cnt call swf fnf p3 p_25) (cwV 1 hts gL_isHidden_X4_isHidden rfl rfl rfl (by decide +kernel) ⟨Nat.le_of_ble_eq_true rfl, Nat.le_of_ble_eq_true rfl⟩) (ff_preV (q := (RX4, TX4, 6)) (ci := 4) (q0 := 0) hPc hK hDc hN rfl rfl) rfl rfl hl.1 rfl (lv_room (Nat.le_of_ble_eq_true rfl)) dL_isHidden_8 ⟨Nat.le_of_ble_eq_true rfl, Nat.le_of_ble_eq_true rfl⟩) hP hD hS hA [0, 1, 2, 3, 4, 5, 6, 7, 8, 9] [10, 11] (wr := [(qb, .inl (cI, 12, .inl fb)), (qg, .inl (cI, 3, .inl fg))]) rfl rfl (by decide) (by decide) (fun r u H locs hw hP hD hS => ?_)
    replace hw := hw.symm
    subst hw
    have hP : va_P D vwCl [(qb, .inl (cI, 12, .inl fb)), (qg, .inl (cI, 3, .inl fg)), (xh, .inr (4, [.ref ch, .ref bh, .ref lg, .int lgd, .ref sh, .ref vh])), (ch, .inr (0, [.ref ca, .int ccc, .int cac, .int cfc, .int clc])), (ca, .inl (cI, 10, .inl cf)), (bh, .inr (0, [.ref ba, .int bcc, .int bac, .int bfc, .int blc])), (ba, .inl (cI, 10, .inl bf)), (lg, .inl (cI, 12, .inl lgf)), (sh, .inr (2, [.ref sa, .int cnt, .int call])), (sa, .inl (cI, 12, .inl swf)), (vh, .inr (3, [.ref va])), (va, .inl (cI, 12, .inl fnf))] H := hP
    have hD : va_D A [(qb, .inl (cI, 12, .inl fb)), (qg, .inl (cI, 3, .inl fg)), (xh, .inr (4, [.ref ch, .ref bh, .ref lg, .int lgd, .ref sh, .ref vh])), (ch, .inr (0, [.ref ca, .int ccc, .int cac, .int cfc, .int clc])), (ca, .inl (cI, 10, .inl cf)), (bh, .inr (0, [.ref ba, .int bcc, .int bac, .int bfc, .int blc])), (ba, .inl (cI, 10, .inl bf)), (lg, .inl (cI, 12, .inl lgf)), (sh, .inr (2, [.ref sa, .int cnt, .int call])), (sa, .inl (cI, 12, .inl swf)), (vh, .inr (3, [.ref va])), (va, .inl (cI, 12, .inl fnf))] := hD
    refine lv_if_ne (tgt := 18) hx hb dL_isHidden_11 (by decide) (fun c_26 => ?_) (fun c_26 => ?_)
    · have h := h.2 c_26
      refine lv_iconst (v := 0) hx hb dL_isHidden_18 (by decide) ?_
      exact hret 0 () _ _ _ _ _ _ (by decide) h (hP.sub [2, 3, 4, 5, 6, 7, 8, 9, 10, 11, 0, 1] rfl) (hD.sub [2, 3, 4, 5, 6, 7, 8, 9, 10, 11, 0, 1] (by decide) rfl) hS (Nat.le_of_ble_eq_true rfl) (Nat.le_of_ble_eq_true rfl) dL_isHidden_19
    · have h := h.1 c_26
      refine lv_iconst (v := 1) hx hb dL_isHidden_14 (by decide) ?_
      refine lv_goto (tgt := 19) hx hb dL_isHidden_15 (by decide) ?_
      exact hret 1 () _ _ _ _ _ _ (by decide) h (hP.sub [2, 3, 4, 5, 6, 7, 8, 9, 10, 11, 0, 1] rfl) (hD.sub [2, 3, 4, 5, 6, 7, 8, 9, 10, 11, 0, 1] (by decide) rfl) hS (Nat.le_of_ble_eq_true rfl) (Nat.le_of_ble_eq_true rfl) dL_isHidden_19
theorem c_L_isHidden (l : Launch) (D : va_G) (cI : ClassId) (xh ch ca bh ba lg sh sa vh va qb qg : Nat) (sz : Nat) (lgd : Int32) (ccc : Int32) (cac : Int32) (cfc : Int32) (clc : Int32) (cf : Nat → Int32) (bcc : Int32) (bac : Int32) (bfc : Int32) (blc : Int32) (bf : Nat → Int32) (lgf : Nat → Int32) (cnt : Int32) (call : Int32) (swf : Nat → Int32) (fnf : Nat → Int32) (fb : Nat → Int32) (fg : Nat → Int32) (p3 : Int32) (hpre : (∃ z, PK ccc cac cfc clc cf bcc bac bfc blc bf fb z fg) ∧ cel fg p3) : Met l yL_isHidden wsL_isHidden ({ frames := 5, cells := 0, slots := 0, locals := 106 } : Room) (ff_Pc D [(cI, .int)] [.ref xh, .ref qb, .ref qg, .int p3] ([(xh, .inr (4, [.ref ch, .ref bh, .ref lg, .int lgd, .ref sh, .ref vh])), (ch, .inr (0, [.ref ca, .int ccc, .int cac, .int cfc, .int clc])), (ca, .inl (cI, 10, .inl cf)), (bh, .inr (0, [.ref ba, .int bcc, .int bac, .int bfc, .int blc])), (ba, .inl (cI, 10, .inl bf)), (lg, .inl (cI, 12, .inl lgf)), (sh, .inr (2, [.ref sa, .int cnt, .int call])), (sa, .inl (cI, 12, .inl swf)), (vh, .inr (3, [.ref va])), (va, .inl (cI, 12, .inl fnf)), (qb, .inl (cI, 12, .inl fb)), (qg, .inl (cI, 3, .inl fg))] : va_W) sz) (va_Qi (fun (r : Int32) (u : Unit) => r = 1) (fun (u : Unit) t => ff_B D [(cI, .int)] (va_A ([(xh, .inr (4, [.ref ch, .ref bh, .ref lg, .int lgd, .ref sh, .ref vh])), (ch, .inr (0, [.ref ca, .int ccc, .int cac, .int cfc, .int clc])), (ca, .inl (cI, 10, .inl cf)), (bh, .inr (0, [.ref ba, .int bcc, .int bac, .int bfc, .int blc])), (ba, .inl (cI, 10, .inl bf)), (lg, .inl (cI, 12, .inl lgf)), (sh, .inr (2, [.ref sa, .int cnt, .int call])), (sa, .inl (cI, 12, .inl swf)), (vh, .inr (3, [.ref va])), (va, .inl (cI, 12, .inl fnf)), (qb, .inl (cI, 12, .inl fb)), (qg, .inl (cI, 3, .inl fg))] : va_W) sz) [(xh, .inr (4, [.ref ch, .ref bh, .ref lg, .int lgd, .ref sh, .ref vh])), (ch, .inr (0, [.ref ca, .int ccc, .int cac, .int cfc, .int clc])), (ca, .inl (cI, 10, .inl cf)), (bh, .inr (0, [.ref ba, .int bcc, .int bac, .int bfc, .int blc])), (ba, .inl (cI, 10, .inl bf)), (lg, .inl (cI, 12, .inl lgf)), (sh, .inr (2, [.ref sa, .int cnt, .int call])), (sa, .inl (cI, 12, .inl swf)), (vh, .inr (3, [.ref va])), (va, .inl (cI, 12, .inl fnf)), (qb, .inl (cI, 12, .inl fb)), (qg, .inl (cI, 3, .inl fg))] t) (va_A ([(xh, .inr (4, [.ref ch, .ref bh, .ref lg, .int lgd, .ref sh, .ref vh])), (ch, .inr (0, [.ref ca, .int ccc, .int cac, .int cfc, .int clc])), (ca, .inl (cI, 10, .inl cf)), (bh, .inr (0, [.ref ba, .int bcc, .int bac, .int bfc, .int blc])), (ba, .inl (cI, 10, .inl bf)), (lg, .inl (cI, 12, .inl lgf)), (sh, .inr (2, [.ref sa, .int cnt, .int call])), (sa, .inl (cI, 12, .inl swf)), (vh, .inr (3, [.ref va])), (va, .inl (cI, 12, .inl fnf)), (qb, .inl (cI, 12, .inl fb)), (qg, .inl (cI, 3, .inl fg))] : va_W) sz)) 0 0 (va_A ([(xh, .inr (4, [.ref ch, .ref bh, .ref lg, .int lgd, .ref sh, .ref vh])), (ch, .inr (0, [.ref ca, .int ccc, .int cac, .int cfc, .int clc])), (ca, .inl (cI, 10, .inl cf)), (bh, .inr (0, [.ref ba, .int bcc, .int bac, .int bfc, .int blc])), (ba, .inl (cI, 10, .inl bf)), (lg, .inl (cI, 12, .inl lgf)), (sh, .inr (2, [.ref sa, .int cnt, .int call])), (sa, .inl (cI, 12, .inl swf)), (vh, .inr (3, [.ref va])), (va, .inl (cI, 12, .inl fnf)), (qb, .inl (cI, 12, .inl fb)), (qg, .inl (cI, 3, .inl fg))] : va_W) sz) :=
  a_L_isHidden l D cI xh ch ca bh ba lg sh sa vh va qb qg sz lgd ccc cac cfc clc cf bcc bac bfc blc bf lgf cnt call swf fnf fb fg p3 _ (I_L_isHidden_29 lgd ccc cac cfc clc cf bcc bac bfc blc bf lgf cnt call swf fnf fb fg p3) (mu_L_isHidden_29 lgd ccc cac cfc clc cf bcc bac bfc blc bf lgf cnt call swf fnf fb fg p3) (I_L_isHidden_83 lgd ccc cac cfc clc cf bcc bac bfc blc bf lgf cnt call swf fnf fb fg p3) (mu_L_isHidden_83 lgd ccc cac cfc clc cf bcc bac bfc blc bf lgf cnt call swf fnf fb fg p3) (pl_L_isHidden_29 lgd ccc cac cfc clc cf bcc bac bfc blc bf lgf cnt call swf fnf fb fg p3 hpre) (pl_L_isHidden_83 lgd ccc cac cfc clc cf bcc bac bfc blc bf lgf cnt call swf fnf fb fg p3 hpre) (pe_L_isHidden lgd ccc cac cfc clc cf bcc bac bfc blc bf lgf cnt call swf fnf fb fg p3 hpre)
set_option maxHeartbeats 4000000 in
set_option maxRecDepth 100000 in
theorem a_L_areShapes (l : Launch) (D : va_G) (cI : ClassId) (xh ch ca bh ba lg sh sa vh va qb qg : Nat) (sz : Nat) (lgd : Int32) (ccc : Int32) (cac : Int32) (cfc : Int32) (clc : Int32) (cf : Nat → Int32) (bcc : Int32) (bac : Int32) (bfc : Int32) (blc : Int32) (bf : Nat → Int32) (lgf : Nat → Int32) (cnt : Int32) (call : Int32) (swf : Nat → Int32) (fnf : Nat → Int32) (fb : Nat → Int32) (fg : Nat → Int32) (p3 : Int32) (P : Int32 → (Int32 × Int32 × (Nat → Int32)) → Prop) (I33 : Int32 → Int32 → Int32 → Int32 → Int32 → (Nat → Int32) → Prop) (mu33 : Int32 → Int32 → Int32 → Int32 → Int32 → (Nat → Int32) → Nat) (I58 : Int32 → Int32 → Int32 → Int32 → Int32 → Int32 → (Nat → Int32) → Prop) (mu58 : Int32 → Int32 → Int32 → Int32 → Int32 → Int32 → (Nat → Int32) → Nat) (I61 : Int32 → Int32 → Int32 → Int32 → Int32 → Int32 → Int32 → (Nat → Int32) → Prop) (mu61 : Int32 → Int32 → Int32 → Int32 → Int32 → Int32 → Int32 → (Nat → Int32) → Nat) (I152 : Int32 → Int32 → Int32 → Int32 → Int32 → Int32 → Int32 → Int32 → (Nat → Int32) → Prop) (mu152 : Int32 → Int32 → Int32 → Int32 → Int32 → Int32 → Int32 → Int32 → (Nat → Int32) → Nat) (hv33 : ∀ (x4 : Int32) (x5 : Int32) (x6 : Int32) (cnt' : Int32) (call' : Int32) (swf' : Nat → Int32), I33 x4 x5 x6 cnt' call' swf' → vs_L_areShapes_33 lgd ccc cac cfc clc cf bcc bac bfc blc bf lgf cnt call swf fnf fb fg p3 P (fun (x49 : Int32) (x59 : Int32) (x69 : Int32) (cnt9 : Int32) (call9 : Int32) (swf9 : Nat → Int32) => I33 x49 x59 x69 cnt9 call9 swf9 ∧ mu33 x49 x59 x69 cnt9 call9 swf9 < mu33 x4 x5 x6 cnt' call' swf') I58 I61 I152 x4 x5 x6 cnt' call' swf') (hv58 : ∀ (x4 : Int32) (x5 : Int32) (x6 : Int32) (x7 : Int32) (cnt' : Int32) (call' : Int32) (swf' : Nat → Int32), I58 x4 x5 x6 x7 cnt' call' swf' → vs_L_areShapes_58 lgd ccc cac cfc clc cf bcc bac bfc blc bf lgf cnt call swf fnf fb fg p3 P I33 (fun (x49 : Int32) (x59 : Int32) (x69 : Int32) (x79 : Int32) (cnt9 : Int32) (call9 : Int32) (swf9 : Nat → Int32) => I58 x49 x59 x69 x79 cnt9 call9 swf9 ∧ mu58 x49 x59 x69 x79 cnt9 call9 swf9 < mu58 x4 x5 x6 x7 cnt' call' swf') I61 I152 x4 x5 x6 x7 cnt' call' swf') (hv61 : ∀ (x4 : Int32) (x5 : Int32) (x6 : Int32) (x7 : Int32) (x8 : Int32) (cnt' : Int32) (call' : Int32) (swf' : Nat → Int32), I61 x4 x5 x6 x7 x8 cnt' call' swf' → vs_L_areShapes_61 lgd ccc cac cfc clc cf bcc bac bfc blc bf lgf cnt call swf fnf fb fg p3 P I33 I58 (fun (x49 : Int32) (x59 : Int32) (x69 : Int32) (x79 : Int32) (x89 : Int32) (cnt9 : Int32) (call9 : Int32) (swf9 : Nat → Int32) => I61 x49 x59 x69 x79 x89 cnt9 call9 swf9 ∧ mu61 x49 x59 x69 x79 x89 cnt9 call9 swf9 < mu61 x4 x5 x6 x7 x8 cnt' call' swf') (fun (x49 : Int32) (x59 : Int32) (x69 : Int32) (x79 : Int32) (x89 : Int32) (x99 : Int32) (cnt9 : Int32) (call9 : Int32) (swf9 : Nat → Int32) => I152 x49 x59 x69 x79 x89 x99 cnt9 call9 swf9 ∧ mu152 x49 x59 x69 x79 x89 x99 cnt9 call9 swf9 < mu61 x4 x5 x6 x7 x8 cnt' call' swf') x4 x5 x6 x7 x8 cnt' call' swf') (hv152 : ∀ (x4 : Int32) (x5 : Int32) (x6 : Int32) (x7 : Int32) (x8 : Int32) (x9 : Int32) (cnt' : Int32) (call' : Int32) (swf' : Nat → Int32), I152 x4 x5 x6 x7 x8 x9 cnt' call' swf' → vs_L_areShapes_152 lgd ccc cac cfc clc cf bcc bac bfc blc bf lgf cnt call swf fnf fb fg p3 P I33 I58 (fun (x49 : Int32) (x59 : Int32) (x69 : Int32) (x79 : Int32) (x89 : Int32) (cnt9 : Int32) (call9 : Int32) (swf9 : Nat → Int32) => I61 x49 x59 x69 x79 x89 cnt9 call9 swf9 ∧ mu61 x49 x59 x69 x79 x89 cnt9 call9 swf9 < mu152 x4 x5 x6 x7 x8 x9 cnt' call' swf') (fun (x49 : Int32) (x59 : Int32) (x69 : Int32) (x79 : Int32) (x89 : Int32) (x99 : Int32) (cnt9 : Int32) (call9 : Int32) (swf9 : Nat → Int32) => I152 x49 x59 x69 x79 x89 x99 cnt9 call9 swf9 ∧ mu152 x49 x59 x69 x79 x89 x99 cnt9 call9 swf9 < mu152 x4 x5 x6 x7 x8 x9 cnt' call' swf') x4 x5 x6 x7 x8 x9 cnt' call' swf') (he : ve_L_areShapes lgd ccc cac cfc clc cf bcc bac bfc blc bf lgf cnt call swf fnf fb fg p3 P I33 I58 I61 I152) : Met l yL_areShapes wsL_areShapes ({ frames := 6, cells := 0, slots := 0, locals := 134 } : Room) (ff_Pc D [(cI, .int)] [.ref xh, .ref qb, .ref qg, .int p3] ([(xh, .inr (4, [.ref ch, .ref bh, .ref lg, .int lgd, .ref sh, .ref vh])), (ch, .inr (0, [.ref ca, .int ccc, .int cac, .int cfc, .int clc])), (ca, .inl (cI, 10, .inl cf)), (bh, .inr (0, [.ref ba, .int bcc, .int bac, .int bfc, .int blc])), (ba, .inl (cI, 10, .inl bf)), (lg, .inl (cI, 12, .inl lgf)), (sh, .inr (2, [.ref sa, .int cnt, .int call])), (sa, .inl (cI, 12, .inl swf)), (vh, .inr (3, [.ref va])), (va, .inl (cI, 12, .inl fnf)), (qb, .inl (cI, 12, .inl fb)), (qg, .inl (cI, 3, .inl fg))] : va_W) sz) (va_Qi P (fun (u : Int32 × Int32 × (Nat → Int32)) t => ff_B D [(cI, .int)] (va_A ([(xh, .inr (4, [.ref ch, .ref bh, .ref lg, .int lgd, .ref sh, .ref vh])), (ch, .inr (0, [.ref ca, .int ccc, .int cac, .int cfc, .int clc])), (ca, .inl (cI, 10, .inl cf)), (bh, .inr (0, [.ref ba, .int bcc, .int bac, .int bfc, .int blc])), (ba, .inl (cI, 10, .inl bf)), (lg, .inl (cI, 12, .inl lgf)), (sh, .inr (2, [.ref sa, .int cnt, .int call])), (sa, .inl (cI, 12, .inl swf)), (vh, .inr (3, [.ref va])), (va, .inl (cI, 12, .inl fnf)), (qb, .inl (cI, 12, .inl fb)), (qg, .inl (cI, 3, .inl fg))] : va_W) sz) [(xh, .inr (4, [.ref ch, .ref bh, .ref lg, .int lgd, .ref sh, .ref vh])), (ch, .inr (0, [.ref ca, .int ccc, .int cac, .int cfc, .int clc])), (ca, .inl (cI, 10, .inl cf)), (bh, .inr (0, [.ref ba, .int bcc, .int bac, .int bfc, .int blc])), (ba, .inl (cI, 10, .inl bf)), (lg, .inl (cI, 12, .inl lgf)), (sh, .inr (2, [.ref sa, .int (u.1), .int (u.2.1)])), (sa, .inl (cI, 12, .inl (u.2.2))), (vh, .inr (3, [.ref va])), (va, .inl (cI, 12, .inl fnf)), (qb, .inl (cI, 12, .inl fb)), (qg, .inl (cI, 3, .inl fg))] t) (va_A ([(xh, .inr (4, [.ref ch, .ref bh, .ref lg, .int lgd, .ref sh, .ref vh])), (ch, .inr (0, [.ref ca, .int ccc, .int cac, .int cfc, .int clc])), (ca, .inl (cI, 10, .inl cf)), (bh, .inr (0, [.ref ba, .int bcc, .int bac, .int bfc, .int blc])), (ba, .inl (cI, 10, .inl bf)), (lg, .inl (cI, 12, .inl lgf)), (sh, .inr (2, [.ref sa, .int cnt, .int call])), (sa, .inl (cI, 12, .inl swf)), (vh, .inr (3, [.ref va])), (va, .inl (cI, 12, .inl fnf)), (qb, .inl (cI, 12, .inl fb)), (qg, .inl (cI, 3, .inl fg))] : va_W) sz)) 0 0 (va_A ([(xh, .inr (4, [.ref ch, .ref bh, .ref lg, .int lgd, .ref sh, .ref vh])), (ch, .inr (0, [.ref ca, .int ccc, .int cac, .int cfc, .int clc])), (ca, .inl (cI, 10, .inl cf)), (bh, .inr (0, [.ref ba, .int bcc, .int bac, .int bfc, .int blc])), (ba, .inl (cI, 10, .inl bf)), (lg, .inl (cI, 12, .inl lgf)), (sh, .inr (2, [.ref sa, .int cnt, .int call])), (sa, .inl (cI, 12, .inl swf)), (vh, .inr (3, [.ref va])), (va, .inl (cI, 12, .inl fnf)), (qb, .inl (cI, 12, .inl fb)), (qg, .inl (cI, 3, .inl fg))] : va_W) sz) := by
  refine ff_metZ (Wf := (fun (u : Int32 × Int32 × (Nat → Int32)) => ([(xh, .inr (4, [.ref ch, .ref bh, .ref lg, .int lgd, .ref sh, .ref vh])), (ch, .inr (0, [.ref ca, .int ccc, .int cac, .int cfc, .int clc])), (ca, .inl (cI, 10, .inl cf)), (bh, .inr (0, [.ref ba, .int bcc, .int bac, .int bfc, .int blc])), (ba, .inl (cI, 10, .inl bf)), (lg, .inl (cI, 12, .inl lgf)), (sh, .inr (2, [.ref sa, .int (u.1), .int (u.2.1)])), (sa, .inl (cI, 12, .inl (u.2.2))), (vh, .inr (3, [.ref va])), (va, .inl (cI, 12, .inl fnf)), (qb, .inl (cI, 12, .inl fb)), (qg, .inl (cI, 3, .inl fg))] : va_W))) (by decide +kernel) rfl (Nat.le_of_ble_eq_true rfl) ?_
  intro p e s m args below meth c A Q ls H hx hb hml hown hts hN hA hK hP hD hS hret hl
  have LL61 : ∀ (N : Nat), (∀ (x4 : Int32) (x5 : Int32) (x6 : Int32) (x7 : Int32) (x8 : Int32) (cnt' : Int32) (call' : Int32) (swf' : Nat → Int32) (H : Heap) (locs : List Loc) (ls : Array Slot), I61 x4 x5 x6 x7 x8 cnt' call' swf' → mu61 x4 x5 x6 x7 x8 cnt' call' swf' < N → va_P D vwCl [(xh, .inr (4, [.ref ch, .ref bh, .ref lg, .int lgd, .ref sh, .ref vh])), (ch, .inr (0, [.ref ca, .int ccc, .int cac, .int cfc, .int clc])), (ca, .inl (cI, 10, .inl cf)), (bh, .inr (0, [.ref ba, .int bcc, .int bac, .int bfc, .int blc])), (ba, .inl (cI, 10, .inl bf)), (lg, .inl (cI, 12, .inl lgf)), (sh, .inr (2, [.ref sa, .int cnt', .int call'])), (sa, .inl (cI, 12, .inl swf')), (vh, .inr (3, [.ref va])), (va, .inl (cI, 12, .inl fnf)), (qb, .inl (cI, 12, .inl fb)), (qg, .inl (cI, 3, .inl fg))] H → va_D A [(xh, .inr (4, [.ref ch, .ref bh, .ref lg, .int lgd, .ref sh, .ref vh])), (ch, .inr (0, [.ref ca, .int ccc, .int cac, .int cfc, .int clc])), (ca, .inl (cI, 10, .inl cf)), (bh, .inr (0, [.ref ba, .int bcc, .int bac, .int bfc, .int blc])), (ba, .inl (cI, 10, .inl bf)), (lg, .inl (cI, 12, .inl lgf)), (sh, .inr (2, [.ref sa, .int cnt', .int call'])), (sa, .inl (cI, 12, .inl swf')), (vh, .inr (3, [.ref va])), (va, .inl (cI, 12, .inl fnf)), (qb, .inl (cI, 12, .inl fb)), (qg, .inl (cI, 3, .inl fg))] → va_S A s.heap H locs → lv_has ls 10 [(0, .ref xh), (1, .ref qb), (2, .ref qg), (3, .int p3), (4, .int x4), (5, .int x5), (6, .int x6), (7, .int x7), (8, .int x8)] → W p l e ({ frames := 6, cells := 0, slots := 0, locals := 134 } : Room) s m args below meth c H locs 0 0 Q (F0 m 61 ls [])) ∧ (∀ (x4 : Int32) (x5 : Int32) (x6 : Int32) (x7 : Int32) (x8 : Int32) (x9 : Int32) (cnt' : Int32) (call' : Int32) (swf' : Nat → Int32) (H : Heap) (locs : List Loc) (ls : Array Slot), I152 x4 x5 x6 x7 x8 x9 cnt' call' swf' → mu152 x4 x5 x6 x7 x8 x9 cnt' call' swf' < N → va_P D vwCl [(xh, .inr (4, [.ref ch, .ref bh, .ref lg, .int lgd, .ref sh, .ref vh])), (ch, .inr (0, [.ref ca, .int ccc, .int cac, .int cfc, .int clc])), (ca, .inl (cI, 10, .inl cf)), (bh, .inr (0, [.ref ba, .int bcc, .int bac, .int bfc, .int blc])), (ba, .inl (cI, 10, .inl bf)), (lg, .inl (cI, 12, .inl lgf)), (sh, .inr (2, [.ref sa, .int cnt', .int call'])), (sa, .inl (cI, 12, .inl swf')), (vh, .inr (3, [.ref va])), (va, .inl (cI, 12, .inl fnf)), (qb, .inl (cI, 12, .inl fb)), (qg, .inl (cI, 3, .inl fg))] H → va_D A [(xh, .inr (4, [.ref ch, .ref bh, .ref lg, .int lgd, .ref sh, .ref vh])), (ch, .inr (0, [.ref ca, .int ccc, .int cac, .int cfc, .int clc])), (ca, .inl (cI, 10, .inl cf)), (bh, .inr (0, [.ref ba, .int bcc, .int bac, .int bfc, .int blc])), (ba, .inl (cI, 10, .inl bf)), (lg, .inl (cI, 12, .inl lgf)), (sh, .inr (2, [.ref sa, .int cnt', .int call'])), (sa, .inl (cI, 12, .inl swf')), (vh, .inr (3, [.ref va])), (va, .inl (cI, 12, .inl fnf)), (qb, .inl (cI, 12, .inl fb)), (qg, .inl (cI, 3, .inl fg))] → va_S A s.heap H locs → lv_has ls 10 [(0, .ref xh), (1, .ref qb), (2, .ref qg), (3, .int p3), (4, .int x4), (5, .int x5), (6, .int x6), (7, .int x7), (8, .int x8), (9, .int x9)] → W p l e ({ frames := 6, cells := 0, slots := 0, locals := 134 } : Room) s m args below meth c H locs 0 0 Q (F0 m 152 ls [])) := by
    intro N
    induction N with
    | zero => exact ⟨by intros; rename_i hz _ _ _ _; exact absurd hz (Nat.not_lt_zero _), by intros; rename_i hz _ _ _ _; exact absurd hz (Nat.not_lt_zero _)⟩
    | succ N ih =>
      refine ⟨?_, ?_⟩
      · intro x4 x5 x6 x7 x8 cnt' call' swf' H locs ls hI hmu hP hD hS hl
        have h := hv61 x4 x5 x6 x7 x8 cnt' call' swf' hI
        unfold vs_L_areShapes_61 at h
        refine lv_iload hx hb dL_areShapes_61 (lv_at hl 8 rfl) ?_
        refine lv_aload_n hx hb dL_areShapes_63 rfl (lv_at hl 2 rfl) ?_
        refine lv_iconst (v := 0) hx hb dL_areShapes_64 (by decide) ?_
        refine ff_ialdK hx hb hK hP 11 0 rfl rfl (vp_in_nI (n := 0) (N := 3) (by decide) (by decide)) (k := 0) rfl dL_areShapes_65 ?_
        refine lv_aload_n hx hb dL_areShapes_66 rfl (lv_at hl 2 rfl) ?_
        refine lv_iconst (v := 1) hx hb dL_areShapes_67 (by decide) ?_
        refine ff_ialdK hx hb hK hP 11 0 rfl rfl (vp_in_nI (n := 1) (N := 3) (by decide) (by decide)) (k := 1) rfl dL_areShapes_68 ?_
        refine lv_imul hx hb dL_areShapes_69 ?_
        refine lv_icmp_ge (tgt := 158) hx hb dL_areShapes_70 (by decide) (fun c_1 => ?_) (fun c_1 => ?_)
        · have h := h.1 c_1
          refine lv_iload hx hb dL_areShapes_158 (lv_at hl 6 rfl) ?_
          refine lv_if_eq (tgt := 201) hx hb dL_areShapes_160 (by decide) (fun c_2 => ?_) (fun c_2 => ?_)
          · have h := h.1 c_2
            refine lv_iconst (v := 0) hx hb dL_areShapes_201 (by decide) ?_
            exact hret 0 (cnt', call', swf') _ _ _ _ _ _ (by decide) h (hP.sub [0, 1, 2, 3, 4, 5, 6, 7, 8, 9, 10, 11] rfl) (hD.sub [0, 1, 2, 3, 4, 5, 6, 7, 8, 9, 10, 11] (by decide) rfl) hS (Nat.le_of_ble_eq_true rfl) (Nat.le_of_ble_eq_true rfl) dL_areShapes_202
          · have h := h.2 c_2
            refine lv_iload hx hb dL_areShapes_163 (lv_at hl 5 rfl) ?_
            refine lv_iload hx hb dL_areShapes_165 (lv_at hl 4 rfl) ?_
            refine lv_aload_n hx hb dL_areShapes_167 rfl (lv_at hl 1 rfl) ?_
            refine lv_iload_n hx hb dL_areShapes_168 rfl (lv_at hl 3 rfl) ?_
            obtain ⟨i_3, h⟩ := h
            refine va_iald hx hb hK hP 10 0 rfl rfl i_3 dL_areShapes_169 ?_
            refine lv_imul hx hb dL_areShapes_170 ?_
            refine lv_icmp_ne (tgt := 201) hx hb dL_areShapes_171 (by decide) (fun c_4 => ?_) (fun c_4 => ?_)
            · have h := h.2 c_4
              refine lv_iconst (v := 0) hx hb dL_areShapes_201 (by decide) ?_
              exact hret 0 (cnt', call', swf') _ _ _ _ _ _ (by decide) h (hP.sub [0, 1, 2, 3, 4, 5, 6, 7, 8, 9, 10, 11] rfl) (hD.sub [0, 1, 2, 3, 4, 5, 6, 7, 8, 9, 10, 11] (by decide) rfl) hS (Nat.le_of_ble_eq_true rfl) (Nat.le_of_ble_eq_true rfl) dL_areShapes_202
            · have h := h.1 c_4
              refine lv_iload hx hb dL_areShapes_174 (lv_at hl 7 rfl) ?_
              obtain ⟨p_5, h⟩ := h
              have hPc := hP.sub (ws' := []) [] rfl
              have hDc := hD.sub (ws' := []) [] (by decide) rfl
              refine ff_callI (va_runS (As := [.int x7]) (rest := []) ⟨hx, hb, hml, hown, hts⟩ (c_L_many l D cI H.size x7 p_5) (va_cwS 1 hts gL_areShapes_L_many rfl rfl rfl (by decide +kernel) ⟨Nat.le_of_ble_eq_true rfl, Nat.le_of_ble_eq_true rfl⟩) (ff_preS hPc hK hDc hN) rfl rfl hl.1 rfl (lv_room (Nat.le_of_ble_eq_true rfl)) dL_areShapes_176 ⟨Nat.le_of_ble_eq_true rfl, Nat.le_of_ble_eq_true rfl⟩) hP hD hS hA [] [0, 1, 2, 3, 4, 5, 6, 7, 8, 9, 10, 11] (wr := [(xh, .inr (4, [.ref ch, .ref bh, .ref lg, .int lgd, .ref sh, .ref vh])), (ch, .inr (0, [.ref ca, .int ccc, .int cac, .int cfc, .int clc])), (ca, .inl (cI, 10, .inl cf)), (bh, .inr (0, [.ref ba, .int bcc, .int bac, .int bfc, .int blc])), (ba, .inl (cI, 10, .inl bf)), (lg, .inl (cI, 12, .inl lgf)), (sh, .inr (2, [.ref sa, .int cnt', .int call'])), (sa, .inl (cI, 12, .inl swf')), (vh, .inr (3, [.ref va])), (va, .inl (cI, 12, .inl fnf)), (qb, .inl (cI, 12, .inl fb)), (qg, .inl (cI, 3, .inl fg))]) rfl rfl (by decide) (by decide) (fun r u H locs hw hP hD hS => ?_)
              replace hw := hw.symm
              subst hw
              have hP : va_P D vwCl [(xh, .inr (4, [.ref ch, .ref bh, .ref lg, .int lgd, .ref sh, .ref vh])), (ch, .inr (0, [.ref ca, .int ccc, .int cac, .int cfc, .int clc])), (ca, .inl (cI, 10, .inl cf)), (bh, .inr (0, [.ref ba, .int bcc, .int bac, .int bfc, .int blc])), (ba, .inl (cI, 10, .inl bf)), (lg, .inl (cI, 12, .inl lgf)), (sh, .inr (2, [.ref sa, .int cnt', .int call'])), (sa, .inl (cI, 12, .inl swf')), (vh, .inr (3, [.ref va])), (va, .inl (cI, 12, .inl fnf)), (qb, .inl (cI, 12, .inl fb)), (qg, .inl (cI, 3, .inl fg))] H := hP
              have hD : va_D A [(xh, .inr (4, [.ref ch, .ref bh, .ref lg, .int lgd, .ref sh, .ref vh])), (ch, .inr (0, [.ref ca, .int ccc, .int cac, .int cfc, .int clc])), (ca, .inl (cI, 10, .inl cf)), (bh, .inr (0, [.ref ba, .int bcc, .int bac, .int bfc, .int blc])), (ba, .inl (cI, 10, .inl bf)), (lg, .inl (cI, 12, .inl lgf)), (sh, .inr (2, [.ref sa, .int cnt', .int call'])), (sa, .inl (cI, 12, .inl swf')), (vh, .inr (3, [.ref va])), (va, .inl (cI, 12, .inl fnf)), (qb, .inl (cI, 12, .inl fb)), (qg, .inl (cI, 3, .inl fg))] := hD
              refine lv_aload_n hx hb dL_areShapes_179 rfl (lv_at hl 1 rfl) ?_
              refine lv_iload_n hx hb dL_areShapes_180 rfl (lv_at hl 3 rfl) ?_
              obtain ⟨i_6, h⟩ := h
              refine va_iald hx hb hK hP 10 0 rfl rfl i_6 dL_areShapes_181 ?_
              refine lv_icmp_lt (tgt := 197) hx hb dL_areShapes_182 (by decide) (fun c_7 => ?_) (fun c_7 => ?_)
              · have h := h.1 c_7
                refine lv_iconst (v := 1) hx hb dL_areShapes_197 (by decide) ?_
                refine lv_goto (tgt := 202) hx hb dL_areShapes_198 (by decide) ?_
                exact hret 1 (cnt', call', swf') _ _ _ _ _ _ (by decide) h (hP.sub [0, 1, 2, 3, 4, 5, 6, 7, 8, 9, 10, 11] rfl) (hD.sub [0, 1, 2, 3, 4, 5, 6, 7, 8, 9, 10, 11] (by decide) rfl) hS (Nat.le_of_ble_eq_true rfl) (Nat.le_of_ble_eq_true rfl) dL_areShapes_202
              · have h := h.2 c_7
                refine lv_aload_n hx hb dL_areShapes_185 rfl (lv_at hl 1 rfl) ?_
                refine lv_iload_n hx hb dL_areShapes_186 rfl (lv_at hl 3 rfl) ?_
                obtain ⟨i_8, h⟩ := h
                refine va_iald hx hb hK hP 10 0 rfl rfl i_8 dL_areShapes_187 ?_
                refine lv_if_eq (tgt := 197) hx hb dL_areShapes_188 (by decide) (fun c_9 => ?_) (fun c_9 => ?_)
                · have h := h.1 c_9
                  refine lv_iconst (v := 1) hx hb dL_areShapes_197 (by decide) ?_
                  refine lv_goto (tgt := 202) hx hb dL_areShapes_198 (by decide) ?_
                  exact hret 1 (cnt', call', swf') _ _ _ _ _ _ (by decide) h (hP.sub [0, 1, 2, 3, 4, 5, 6, 7, 8, 9, 10, 11] rfl) (hD.sub [0, 1, 2, 3, 4, 5, 6, 7, 8, 9, 10, 11] (by decide) rfl) hS (Nat.le_of_ble_eq_true rfl) (Nat.le_of_ble_eq_true rfl) dL_areShapes_202
                · have h := h.2 c_9
                  refine lv_iload hx hb dL_areShapes_191 (lv_at hl 4 rfl) ?_
                  refine lv_iconst (v := 1) hx hb dL_areShapes_193 (by decide) ?_
                  refine lv_icmp_ne (tgt := 201) hx hb dL_areShapes_194 (by decide) (fun c_10 => ?_) (fun c_10 => ?_)
                  · have h := h.2 c_10
                    refine lv_iconst (v := 0) hx hb dL_areShapes_201 (by decide) ?_
                    exact hret 0 (cnt', call', swf') _ _ _ _ _ _ (by decide) h (hP.sub [0, 1, 2, 3, 4, 5, 6, 7, 8, 9, 10, 11] rfl) (hD.sub [0, 1, 2, 3, 4, 5, 6, 7, 8, 9, 10, 11] (by decide) rfl) hS (Nat.le_of_ble_eq_true rfl) (Nat.le_of_ble_eq_true rfl) dL_areShapes_202
                  · have h := h.1 c_10
                    refine lv_iconst (v := 1) hx hb dL_areShapes_197 (by decide) ?_
                    refine lv_goto (tgt := 202) hx hb dL_areShapes_198 (by decide) ?_
                    exact hret 1 (cnt', call', swf') _ _ _ _ _ _ (by decide) h (hP.sub [0, 1, 2, 3, 4, 5, 6, 7, 8, 9, 10, 11] rfl) (hD.sub [0, 1, 2, 3, 4, 5, 6, 7, 8, 9, 10, 11] (by decide) rfl) hS (Nat.le_of_ble_eq_true rfl) (Nat.le_of_ble_eq_true rfl) dL_areShapes_202
        · have h := h.2 c_1
          refine lv_iload hx hb dL_areShapes_73 (lv_at hl 6 rfl) ?_
          refine lv_if_eq (tgt := 158) hx hb dL_areShapes_75 (by decide) (fun c_11 => ?_) (fun c_11 => ?_)
          · have h := h.1 c_11
            refine lv_iload hx hb dL_areShapes_158 (lv_at hl 6 rfl) ?_
            refine lv_if_eq (tgt := 201) hx hb dL_areShapes_160 (by decide) (fun c_12 => ?_) (fun c_12 => ?_)
            · have h := h.1 c_12
              refine lv_iconst (v := 0) hx hb dL_areShapes_201 (by decide) ?_
              exact hret 0 (cnt', call', swf') _ _ _ _ _ _ (by decide) h (hP.sub [0, 1, 2, 3, 4, 5, 6, 7, 8, 9, 10, 11] rfl) (hD.sub [0, 1, 2, 3, 4, 5, 6, 7, 8, 9, 10, 11] (by decide) rfl) hS (Nat.le_of_ble_eq_true rfl) (Nat.le_of_ble_eq_true rfl) dL_areShapes_202
            · have h := h.2 c_12
              refine lv_iload hx hb dL_areShapes_163 (lv_at hl 5 rfl) ?_
              refine lv_iload hx hb dL_areShapes_165 (lv_at hl 4 rfl) ?_
              refine lv_aload_n hx hb dL_areShapes_167 rfl (lv_at hl 1 rfl) ?_
              refine lv_iload_n hx hb dL_areShapes_168 rfl (lv_at hl 3 rfl) ?_
              obtain ⟨i_13, h⟩ := h
              refine va_iald hx hb hK hP 10 0 rfl rfl i_13 dL_areShapes_169 ?_
              refine lv_imul hx hb dL_areShapes_170 ?_
              refine lv_icmp_ne (tgt := 201) hx hb dL_areShapes_171 (by decide) (fun c_14 => ?_) (fun c_14 => ?_)
              · have h := h.2 c_14
                refine lv_iconst (v := 0) hx hb dL_areShapes_201 (by decide) ?_
                exact hret 0 (cnt', call', swf') _ _ _ _ _ _ (by decide) h (hP.sub [0, 1, 2, 3, 4, 5, 6, 7, 8, 9, 10, 11] rfl) (hD.sub [0, 1, 2, 3, 4, 5, 6, 7, 8, 9, 10, 11] (by decide) rfl) hS (Nat.le_of_ble_eq_true rfl) (Nat.le_of_ble_eq_true rfl) dL_areShapes_202
              · have h := h.1 c_14
                refine lv_iload hx hb dL_areShapes_174 (lv_at hl 7 rfl) ?_
                obtain ⟨p_15, h⟩ := h
                have hPc := hP.sub (ws' := []) [] rfl
                have hDc := hD.sub (ws' := []) [] (by decide) rfl
                refine ff_callI (va_runS (As := [.int x7]) (rest := []) ⟨hx, hb, hml, hown, hts⟩ (c_L_many l D cI H.size x7 p_15) (va_cwS 1 hts gL_areShapes_L_many rfl rfl rfl (by decide +kernel) ⟨Nat.le_of_ble_eq_true rfl, Nat.le_of_ble_eq_true rfl⟩) (ff_preS hPc hK hDc hN) rfl rfl hl.1 rfl (lv_room (Nat.le_of_ble_eq_true rfl)) dL_areShapes_176 ⟨Nat.le_of_ble_eq_true rfl, Nat.le_of_ble_eq_true rfl⟩) hP hD hS hA [] [0, 1, 2, 3, 4, 5, 6, 7, 8, 9, 10, 11] (wr := [(xh, .inr (4, [.ref ch, .ref bh, .ref lg, .int lgd, .ref sh, .ref vh])), (ch, .inr (0, [.ref ca, .int ccc, .int cac, .int cfc, .int clc])), (ca, .inl (cI, 10, .inl cf)), (bh, .inr (0, [.ref ba, .int bcc, .int bac, .int bfc, .int blc])), (ba, .inl (cI, 10, .inl bf)), (lg, .inl (cI, 12, .inl lgf)), (sh, .inr (2, [.ref sa, .int cnt', .int call'])), (sa, .inl (cI, 12, .inl swf')), (vh, .inr (3, [.ref va])), (va, .inl (cI, 12, .inl fnf)), (qb, .inl (cI, 12, .inl fb)), (qg, .inl (cI, 3, .inl fg))]) rfl rfl (by decide) (by decide) (fun r u H locs hw hP hD hS => ?_)
                replace hw := hw.symm
                subst hw
                have hP : va_P D vwCl [(xh, .inr (4, [.ref ch, .ref bh, .ref lg, .int lgd, .ref sh, .ref vh])), (ch, .inr (0, [.ref ca, .int ccc, .int cac, .int cfc, .int clc])), (ca, .inl (cI, 10, .inl cf)), (bh, .inr (0, [.ref ba, .int bcc, .int bac, .int bfc, .int blc])), (ba, .inl (cI, 10, .inl bf)), (lg, .inl (cI, 12, .inl lgf)), (sh, .inr (2, [.ref sa, .int cnt', .int call'])), (sa, .inl (cI, 12, .inl swf')), (vh, .inr (3, [.ref va])), (va, .inl (cI, 12, .inl fnf)), (qb, .inl (cI, 12, .inl fb)), (qg, .inl (cI, 3, .inl fg))] H := hP
                have hD : va_D A [(xh, .inr (4, [.ref ch, .ref bh, .ref lg, .int lgd, .ref sh, .ref vh])), (ch, .inr (0, [.ref ca, .int ccc, .int cac, .int cfc, .int clc])), (ca, .inl (cI, 10, .inl cf)), (bh, .inr (0, [.ref ba, .int bcc, .int bac, .int bfc, .int blc])), (ba, .inl (cI, 10, .inl bf)), (lg, .inl (cI, 12, .inl lgf)), (sh, .inr (2, [.ref sa, .int cnt', .int call'])), (sa, .inl (cI, 12, .inl swf')), (vh, .inr (3, [.ref va])), (va, .inl (cI, 12, .inl fnf)), (qb, .inl (cI, 12, .inl fb)), (qg, .inl (cI, 3, .inl fg))] := hD
                refine lv_aload_n hx hb dL_areShapes_179 rfl (lv_at hl 1 rfl) ?_
                refine lv_iload_n hx hb dL_areShapes_180 rfl (lv_at hl 3 rfl) ?_
                obtain ⟨i_16, h⟩ := h
                refine va_iald hx hb hK hP 10 0 rfl rfl i_16 dL_areShapes_181 ?_
                refine lv_icmp_lt (tgt := 197) hx hb dL_areShapes_182 (by decide) (fun c_17 => ?_) (fun c_17 => ?_)
                · have h := h.1 c_17
                  refine lv_iconst (v := 1) hx hb dL_areShapes_197 (by decide) ?_
                  refine lv_goto (tgt := 202) hx hb dL_areShapes_198 (by decide) ?_
                  exact hret 1 (cnt', call', swf') _ _ _ _ _ _ (by decide) h (hP.sub [0, 1, 2, 3, 4, 5, 6, 7, 8, 9, 10, 11] rfl) (hD.sub [0, 1, 2, 3, 4, 5, 6, 7, 8, 9, 10, 11] (by decide) rfl) hS (Nat.le_of_ble_eq_true rfl) (Nat.le_of_ble_eq_true rfl) dL_areShapes_202
                · have h := h.2 c_17
                  refine lv_aload_n hx hb dL_areShapes_185 rfl (lv_at hl 1 rfl) ?_
                  refine lv_iload_n hx hb dL_areShapes_186 rfl (lv_at hl 3 rfl) ?_
                  obtain ⟨i_18, h⟩ := h
                  refine va_iald hx hb hK hP 10 0 rfl rfl i_18 dL_areShapes_187 ?_
                  refine lv_if_eq (tgt := 197) hx hb dL_areShapes_188 (by decide) (fun c_19 => ?_) (fun c_19 => ?_)
                  · have h := h.1 c_19
                    refine lv_iconst (v := 1) hx hb dL_areShapes_197 (by decide) ?_
                    refine lv_goto (tgt := 202) hx hb dL_areShapes_198 (by decide) ?_
                    exact hret 1 (cnt', call', swf') _ _ _ _ _ _ (by decide) h (hP.sub [0, 1, 2, 3, 4, 5, 6, 7, 8, 9, 10, 11] rfl) (hD.sub [0, 1, 2, 3, 4, 5, 6, 7, 8, 9, 10, 11] (by decide) rfl) hS (Nat.le_of_ble_eq_true rfl) (Nat.le_of_ble_eq_true rfl) dL_areShapes_202
                  · have h := h.2 c_19
                    refine lv_iload hx hb dL_areShapes_191 (lv_at hl 4 rfl) ?_
                    refine lv_iconst (v := 1) hx hb dL_areShapes_193 (by decide) ?_
                    refine lv_icmp_ne (tgt := 201) hx hb dL_areShapes_194 (by decide) (fun c_20 => ?_) (fun c_20 => ?_)
                    · have h := h.2 c_20
                      refine lv_iconst (v := 0) hx hb dL_areShapes_201 (by decide) ?_
                      exact hret 0 (cnt', call', swf') _ _ _ _ _ _ (by decide) h (hP.sub [0, 1, 2, 3, 4, 5, 6, 7, 8, 9, 10, 11] rfl) (hD.sub [0, 1, 2, 3, 4, 5, 6, 7, 8, 9, 10, 11] (by decide) rfl) hS (Nat.le_of_ble_eq_true rfl) (Nat.le_of_ble_eq_true rfl) dL_areShapes_202
                    · have h := h.1 c_20
                      refine lv_iconst (v := 1) hx hb dL_areShapes_197 (by decide) ?_
                      refine lv_goto (tgt := 202) hx hb dL_areShapes_198 (by decide) ?_
                      exact hret 1 (cnt', call', swf') _ _ _ _ _ _ (by decide) h (hP.sub [0, 1, 2, 3, 4, 5, 6, 7, 8, 9, 10, 11] rfl) (hD.sub [0, 1, 2, 3, 4, 5, 6, 7, 8, 9, 10, 11] (by decide) rfl) hS (Nat.le_of_ble_eq_true rfl) (Nat.le_of_ble_eq_true rfl) dL_areShapes_202
          · have h := h.2 c_11
            refine lv_aload_n hx hb dL_areShapes_78 rfl (lv_at hl 0 rfl) ?_
            refine lv_iload_n hx hb dL_areShapes_79 rfl (lv_at hl 3 rfl) ?_
            refine lv_iload hx hb dL_areShapes_80 (lv_at hl 8 rfl) ?_
            obtain ⟨p_21, h⟩ := h
            have hPc := hP.sub (ws' := [(xh, .inr (4, [.ref ch, .ref bh, .ref lg, .int lgd, .ref sh, .ref vh])), (ch, .inr (0, [.ref ca, .int ccc, .int cac, .int cfc, .int clc])), (ca, .inl (cI, 10, .inl cf)), (bh, .inr (0, [.ref ba, .int bcc, .int bac, .int bfc, .int blc])), (ba, .inl (cI, 10, .inl bf)), (lg, .inl (cI, 12, .inl lgf)), (sh, .inr (2, [.ref sa, .int cnt', .int call'])), (sa, .inl (cI, 12, .inl swf')), (vh, .inr (3, [.ref va])), (va, .inl (cI, 12, .inl fnf))]) [0, 1, 2, 3, 4, 5, 6, 7, 8, 9] rfl
            have hDc := hD.sub (ws' := [(xh, .inr (4, [.ref ch, .ref bh, .ref lg, .int lgd, .ref sh, .ref vh])), (ch, .inr (0, [.ref ca, .int ccc, .int cac, .int cfc, .int clc])), (ca, .inl (cI, 10, .inl cf)), (bh, .inr (0, [.ref ba, .int bcc, .int bac, .int bfc, .int blc])), (ba, .inl (cI, 10, .inl bf)), (lg, .inl (cI, 12, .inl lgf)), (sh, .inr (2, [.ref sa, .int cnt', .int call'])), (sa, .inl (cI, 12, .inl swf')), (vh, .inr (3, [.ref va])), (va, .inl (cI, 12, .inl fnf))]) [0, 1, 2, 3, 4, 5, 6, 7, 8, 9] (by decide) rfl
            refine ff_callI (va_runV (As := [.int p3, .int x8]) (rest := []) ⟨hx, hb, hml, hown, hts⟩ (c_X4_shapesWithN l D cI xh ch ca bh ba lg sh sa vh va H.size lgd ccc cac cfc clc cf bcc bac bfc blc bf lgf cnt' call' swf' fnf p3 x8 p_21) (cwV 2 hts gL_areShapes_X4_shapesWith rfl rfl rfl (by decide +kernel) ⟨Nat.le_of_ble_eq_true rfl, Nat.le_of_ble_eq_true rfl⟩) (ff_preV (q := (RX4, TX4, 6)) (ci := 4) (q0 := 0) hPc hK hDc hN rfl rfl) rfl rfl hl.1 rfl (lv_room (Nat.le_of_ble_eq_true rfl)) dL_areShapes_82 ⟨Nat.le_of_ble_eq_true rfl, Nat.le_of_ble_eq_true rfl⟩) hP hD hS hA [0, 1, 2, 3, 4, 5, 6, 7, 8, 9] [10, 11] (wr := [(qb, .inl (cI, 12, .inl fb)), (qg, .inl (cI, 3, .inl fg))]) rfl rfl (by decide) (by decide) (fun r u H locs hw hP hD hS => ?_)
            obtain ⟨cnt_22, call_22, swf_22⟩ := u
            have hw : r = zsw (zli bcc bac bfc blc bf p3 swf').2.2 x8 := hw
            have e0_w := hw
            replace e0_w := e0_w.symm
            subst e0_w
            have h := h cnt_22 call_22 swf_22
            have hP : va_P D vwCl [(qb, .inl (cI, 12, .inl fb)), (qg, .inl (cI, 3, .inl fg)), (xh, .inr (4, [.ref ch, .ref bh, .ref lg, .int lgd, .ref sh, .ref vh])), (ch, .inr (0, [.ref ca, .int ccc, .int cac, .int cfc, .int clc])), (ca, .inl (cI, 10, .inl cf)), (bh, .inr (0, [.ref ba, .int bcc, .int bac, .int bfc, .int blc])), (ba, .inl (cI, 10, .inl bf)), (lg, .inl (cI, 12, .inl lgf)), (sh, .inr (2, [.ref sa, .int cnt_22, .int call_22])), (sa, .inl (cI, 12, .inl swf_22)), (vh, .inr (3, [.ref va])), (va, .inl (cI, 12, .inl fnf))] H := hP
            have hD : va_D A [(qb, .inl (cI, 12, .inl fb)), (qg, .inl (cI, 3, .inl fg)), (xh, .inr (4, [.ref ch, .ref bh, .ref lg, .int lgd, .ref sh, .ref vh])), (ch, .inr (0, [.ref ca, .int ccc, .int cac, .int cfc, .int clc])), (ca, .inl (cI, 10, .inl cf)), (bh, .inr (0, [.ref ba, .int bcc, .int bac, .int bfc, .int blc])), (ba, .inl (cI, 10, .inl bf)), (lg, .inl (cI, 12, .inl lgf)), (sh, .inr (2, [.ref sa, .int cnt_22, .int call_22])), (sa, .inl (cI, 12, .inl swf_22)), (vh, .inr (3, [.ref va])), (va, .inl (cI, 12, .inl fnf))] := hD
            refine lv_topi (fun y_23 ey_23 => ?_)
            have h := h y_23 ey_23
            refine lv_istore (lv' := [(9, .int y_23), (0, .ref xh), (1, .ref qb), (2, .ref qg), (3, .int p3), (4, .int x4), (5, .int x5), (6, .int x6), (7, .int x7), (8, .int x8)]) hx hb dL_areShapes_85 hl (by decide) rfl (fun ls hl => ?_)
            refine lv_iload hx hb dL_areShapes_87 (lv_at hl 6 rfl) ?_
            refine lv_iload hx hb dL_areShapes_89 (lv_at hl 0 rfl) ?_
            refine lv_iadd hx hb dL_areShapes_91 ?_
            refine lv_topi (fun y_24 ey_24 => ?_)
            have h := h y_24 ey_24
            refine lv_istore (lv' := [(5, .int y_24), (9, .int y_23), (0, .ref xh), (1, .ref qb), (2, .ref qg), (3, .int p3), (4, .int x4), (6, .int x6), (7, .int x7), (8, .int x8)]) hx hb dL_areShapes_92 hl (by decide) rfl (fun ls hl => ?_)
            refine lv_iload hx hb dL_areShapes_94 (lv_at hl 1 rfl) ?_
            refine lv_if_lt (tgt := 149) hx hb dL_areShapes_96 (by decide) (fun c_25 => ?_) (fun c_25 => ?_)
            · have h := h.1 c_25
              refine lv_iconst (v := 0) hx hb dL_areShapes_149 (by decide) ?_
              refine lv_istore (lv' := [(6, .int 0), (5, .int y_24), (9, .int y_23), (0, .ref xh), (1, .ref qb), (2, .ref qg), (3, .int p3), (4, .int x4), (7, .int x7), (8, .int x8)]) hx hb dL_areShapes_150 hl (by decide) rfl (fun ls hl => ?_)
              exact ih.2 _ _ _ _ _ _ _ _ _ _ _ _ h.1 (Nat.lt_of_lt_of_le h.2 (Nat.le_of_lt_succ hmu)) (hP.sub [2, 3, 4, 5, 6, 7, 8, 9, 10, 11, 0, 1] rfl) (hD.sub [2, 3, 4, 5, 6, 7, 8, 9, 10, 11, 0, 1] (by decide) rfl) hS (lv_sub hl [3, 4, 5, 6, 7, 1, 0, 8, 9, 2] rfl)
            · have h := h.2 c_25
              refine lv_iload hx hb dL_areShapes_99 (lv_at hl 1 rfl) ?_
              refine lv_iload hx hb dL_areShapes_101 (lv_at hl 6 rfl) ?_
              refine lv_icmp_gt (tgt := 149) hx hb dL_areShapes_103 (by decide) (fun c_26 => ?_) (fun c_26 => ?_)
              · have h := h.1 c_26
                refine lv_iconst (v := 0) hx hb dL_areShapes_149 (by decide) ?_
                refine lv_istore (lv' := [(6, .int 0), (5, .int y_24), (9, .int y_23), (0, .ref xh), (1, .ref qb), (2, .ref qg), (3, .int p3), (4, .int x4), (7, .int x7), (8, .int x8)]) hx hb dL_areShapes_150 hl (by decide) rfl (fun ls hl => ?_)
                exact ih.2 _ _ _ _ _ _ _ _ _ _ _ _ h.1 (Nat.lt_of_lt_of_le h.2 (Nat.le_of_lt_succ hmu)) (hP.sub [2, 3, 4, 5, 6, 7, 8, 9, 10, 11, 0, 1] rfl) (hD.sub [2, 3, 4, 5, 6, 7, 8, 9, 10, 11, 0, 1] (by decide) rfl) hS (lv_sub hl [3, 4, 5, 6, 7, 1, 0, 8, 9, 2] rfl)
              · have h := h.2 c_26
                refine lv_iload hx hb dL_areShapes_106 (lv_at hl 8 rfl) ?_
                refine lv_iload hx hb dL_areShapes_108 (lv_at hl 9 rfl) ?_
                refine lv_ishr hx hb dL_areShapes_110 ?_
                refine lv_iconst (v := 1) hx hb dL_areShapes_111 (by decide) ?_
                refine lv_iand hx hb dL_areShapes_112 ?_
                refine lv_if_eq (tgt := 123) hx hb dL_areShapes_113 (by decide) (fun c_27 => ?_) (fun c_27 => ?_)
                · have h := h.1 c_27
                  refine lv_aload_n hx hb dL_areShapes_123 rfl (lv_at hl 3 rfl) ?_
                  refine lv_iload hx hb dL_areShapes_124 (lv_at hl 9 rfl) ?_
                  obtain ⟨i_28, h⟩ := h
                  refine va_iald hx hb hK hP 0 0 rfl rfl i_28 dL_areShapes_126 ?_
                  refine lv_if_eq (tgt := 145) hx hb dL_areShapes_127 (by decide) (fun c_29 => ?_) (fun c_29 => ?_)
                  · have h := h.1 c_29
                    refine lv_iconst (v := 1) hx hb dL_areShapes_145 (by decide) ?_
                    refine lv_goto (tgt := 150) hx hb dL_areShapes_146 (by decide) ?_
                    refine lv_istore (lv' := [(6, .int 1), (5, .int y_24), (9, .int y_23), (0, .ref xh), (1, .ref qb), (2, .ref qg), (3, .int p3), (4, .int x4), (7, .int x7), (8, .int x8)]) hx hb dL_areShapes_150 hl (by decide) rfl (fun ls hl => ?_)
                    exact ih.2 _ _ _ _ _ _ _ _ _ _ _ _ h.1 (Nat.lt_of_lt_of_le h.2 (Nat.le_of_lt_succ hmu)) (hP.sub [2, 3, 4, 5, 6, 7, 8, 9, 10, 11, 0, 1] rfl) (hD.sub [2, 3, 4, 5, 6, 7, 8, 9, 10, 11, 0, 1] (by decide) rfl) hS (lv_sub hl [3, 4, 5, 6, 7, 1, 0, 8, 9, 2] rfl)
                  · have h := h.2 c_29
                    refine lv_aload_n hx hb dL_areShapes_130 rfl (lv_at hl 3 rfl) ?_
                    refine lv_iload hx hb dL_areShapes_131 (lv_at hl 9 rfl) ?_
                    obtain ⟨i_30, h⟩ := h
                    refine va_iald hx hb hK hP 0 0 rfl rfl i_30 dL_areShapes_133 ?_
                    refine lv_aload_n hx hb dL_areShapes_134 rfl (lv_at hl 3 rfl) ?_
                    refine lv_iload_n hx hb dL_areShapes_135 rfl (lv_at hl 5 rfl) ?_
                    obtain ⟨i_31, h⟩ := h
                    refine va_iald hx hb hK hP 0 0 rfl rfl i_31 dL_areShapes_136 ?_
                    refine lv_icmp_eq (tgt := 145) hx hb dL_areShapes_137 (by decide) (fun c_32 => ?_) (fun c_32 => ?_)
                    · have h := h.1 c_32
                      refine lv_iconst (v := 1) hx hb dL_areShapes_145 (by decide) ?_
                      refine lv_goto (tgt := 150) hx hb dL_areShapes_146 (by decide) ?_
                      refine lv_istore (lv' := [(6, .int 1), (5, .int y_24), (9, .int y_23), (0, .ref xh), (1, .ref qb), (2, .ref qg), (3, .int p3), (4, .int x4), (7, .int x7), (8, .int x8)]) hx hb dL_areShapes_150 hl (by decide) rfl (fun ls hl => ?_)
                      exact ih.2 _ _ _ _ _ _ _ _ _ _ _ _ h.1 (Nat.lt_of_lt_of_le h.2 (Nat.le_of_lt_succ hmu)) (hP.sub [2, 3, 4, 5, 6, 7, 8, 9, 10, 11, 0, 1] rfl) (hD.sub [2, 3, 4, 5, 6, 7, 8, 9, 10, 11, 0, 1] (by decide) rfl) hS (lv_sub hl [3, 4, 5, 6, 7, 1, 0, 8, 9, 2] rfl)
                    · have h := h.2 c_32
                      refine lv_iload hx hb dL_areShapes_140 (lv_at hl 1 rfl) ?_
                      refine lv_if_ne (tgt := 149) hx hb dL_areShapes_142 (by decide) (fun c_33 => ?_) (fun c_33 => ?_)
                      · have h := h.2 c_33
                        refine lv_iconst (v := 0) hx hb dL_areShapes_149 (by decide) ?_
                        refine lv_istore (lv' := [(6, .int 0), (5, .int y_24), (9, .int y_23), (0, .ref xh), (1, .ref qb), (2, .ref qg), (3, .int p3), (4, .int x4), (7, .int x7), (8, .int x8)]) hx hb dL_areShapes_150 hl (by decide) rfl (fun ls hl => ?_)
                        exact ih.2 _ _ _ _ _ _ _ _ _ _ _ _ h.1 (Nat.lt_of_lt_of_le h.2 (Nat.le_of_lt_succ hmu)) (hP.sub [2, 3, 4, 5, 6, 7, 8, 9, 10, 11, 0, 1] rfl) (hD.sub [2, 3, 4, 5, 6, 7, 8, 9, 10, 11, 0, 1] (by decide) rfl) hS (lv_sub hl [3, 4, 5, 6, 7, 1, 0, 8, 9, 2] rfl)
                      · have h := h.1 c_33
                        refine lv_iconst (v := 1) hx hb dL_areShapes_145 (by decide) ?_
                        refine lv_goto (tgt := 150) hx hb dL_areShapes_146 (by decide) ?_
                        refine lv_istore (lv' := [(6, .int 1), (5, .int y_24), (9, .int y_23), (0, .ref xh), (1, .ref qb), (2, .ref qg), (3, .int p3), (4, .int x4), (7, .int x7), (8, .int x8)]) hx hb dL_areShapes_150 hl (by decide) rfl (fun ls hl => ?_)
                        exact ih.2 _ _ _ _ _ _ _ _ _ _ _ _ h.1 (Nat.lt_of_lt_of_le h.2 (Nat.le_of_lt_succ hmu)) (hP.sub [2, 3, 4, 5, 6, 7, 8, 9, 10, 11, 0, 1] rfl) (hD.sub [2, 3, 4, 5, 6, 7, 8, 9, 10, 11, 0, 1] (by decide) rfl) hS (lv_sub hl [3, 4, 5, 6, 7, 1, 0, 8, 9, 2] rfl)
                · have h := h.2 c_27
                  refine lv_iload hx hb dL_areShapes_116 (lv_at hl 1 rfl) ?_
                  refine lv_iload hx hb dL_areShapes_118 (lv_at hl 6 rfl) ?_
                  refine lv_icmp_ne (tgt := 149) hx hb dL_areShapes_120 (by decide) (fun c_34 => ?_) (fun c_34 => ?_)
                  · have h := h.2 c_34
                    refine lv_iconst (v := 0) hx hb dL_areShapes_149 (by decide) ?_
                    refine lv_istore (lv' := [(6, .int 0), (5, .int y_24), (9, .int y_23), (0, .ref xh), (1, .ref qb), (2, .ref qg), (3, .int p3), (4, .int x4), (7, .int x7), (8, .int x8)]) hx hb dL_areShapes_150 hl (by decide) rfl (fun ls hl => ?_)
                    exact ih.2 _ _ _ _ _ _ _ _ _ _ _ _ h.1 (Nat.lt_of_lt_of_le h.2 (Nat.le_of_lt_succ hmu)) (hP.sub [2, 3, 4, 5, 6, 7, 8, 9, 10, 11, 0, 1] rfl) (hD.sub [2, 3, 4, 5, 6, 7, 8, 9, 10, 11, 0, 1] (by decide) rfl) hS (lv_sub hl [3, 4, 5, 6, 7, 1, 0, 8, 9, 2] rfl)
                  · have h := h.1 c_34
                    refine lv_aload_n hx hb dL_areShapes_123 rfl (lv_at hl 3 rfl) ?_
                    refine lv_iload hx hb dL_areShapes_124 (lv_at hl 9 rfl) ?_
                    obtain ⟨i_35, h⟩ := h
                    refine va_iald hx hb hK hP 0 0 rfl rfl i_35 dL_areShapes_126 ?_
                    refine lv_if_eq (tgt := 145) hx hb dL_areShapes_127 (by decide) (fun c_36 => ?_) (fun c_36 => ?_)
                    · have h := h.1 c_36
                      refine lv_iconst (v := 1) hx hb dL_areShapes_145 (by decide) ?_
                      refine lv_goto (tgt := 150) hx hb dL_areShapes_146 (by decide) ?_
                      refine lv_istore (lv' := [(6, .int 1), (5, .int y_24), (9, .int y_23), (0, .ref xh), (1, .ref qb), (2, .ref qg), (3, .int p3), (4, .int x4), (7, .int x7), (8, .int x8)]) hx hb dL_areShapes_150 hl (by decide) rfl (fun ls hl => ?_)
                      exact ih.2 _ _ _ _ _ _ _ _ _ _ _ _ h.1 (Nat.lt_of_lt_of_le h.2 (Nat.le_of_lt_succ hmu)) (hP.sub [2, 3, 4, 5, 6, 7, 8, 9, 10, 11, 0, 1] rfl) (hD.sub [2, 3, 4, 5, 6, 7, 8, 9, 10, 11, 0, 1] (by decide) rfl) hS (lv_sub hl [3, 4, 5, 6, 7, 1, 0, 8, 9, 2] rfl)
                    · have h := h.2 c_36
                      refine lv_aload_n hx hb dL_areShapes_130 rfl (lv_at hl 3 rfl) ?_
                      refine lv_iload hx hb dL_areShapes_131 (lv_at hl 9 rfl) ?_
                      obtain ⟨i_37, h⟩ := h
                      refine va_iald hx hb hK hP 0 0 rfl rfl i_37 dL_areShapes_133 ?_
                      refine lv_aload_n hx hb dL_areShapes_134 rfl (lv_at hl 3 rfl) ?_
                      refine lv_iload_n hx hb dL_areShapes_135 rfl (lv_at hl 5 rfl) ?_
                      obtain ⟨i_38, h⟩ := h
                      refine va_iald hx hb hK hP 0 0 rfl rfl i_38 dL_areShapes_136 ?_
                      refine lv_icmp_eq (tgt := 145) hx hb dL_areShapes_137 (by decide) (fun c_39 => ?_) (fun c_39 => ?_)
                      · have h := h.1 c_39
                        refine lv_iconst (v := 1) hx hb dL_areShapes_145 (by decide) ?_
                        refine lv_goto (tgt := 150) hx hb dL_areShapes_146 (by decide) ?_
                        refine lv_istore (lv' := [(6, .int 1), (5, .int y_24), (9, .int y_23), (0, .ref xh), (1, .ref qb), (2, .ref qg), (3, .int p3), (4, .int x4), (7, .int x7), (8, .int x8)]) hx hb dL_areShapes_150 hl (by decide) rfl (fun ls hl => ?_)
                        exact ih.2 _ _ _ _ _ _ _ _ _ _ _ _ h.1 (Nat.lt_of_lt_of_le h.2 (Nat.le_of_lt_succ hmu)) (hP.sub [2, 3, 4, 5, 6, 7, 8, 9, 10, 11, 0, 1] rfl) (hD.sub [2, 3, 4, 5, 6, 7, 8, 9, 10, 11, 0, 1] (by decide) rfl) hS (lv_sub hl [3, 4, 5, 6, 7, 1, 0, 8, 9, 2] rfl)
                      · have h := h.2 c_39
                        refine lv_iload hx hb dL_areShapes_140 (lv_at hl 1 rfl) ?_
                        refine lv_if_ne (tgt := 149) hx hb dL_areShapes_142 (by decide) (fun c_40 => ?_) (fun c_40 => ?_)
                        · have h := h.2 c_40
                          refine lv_iconst (v := 0) hx hb dL_areShapes_149 (by decide) ?_
                          refine lv_istore (lv' := [(6, .int 0), (5, .int y_24), (9, .int y_23), (0, .ref xh), (1, .ref qb), (2, .ref qg), (3, .int p3), (4, .int x4), (7, .int x7), (8, .int x8)]) hx hb dL_areShapes_150 hl (by decide) rfl (fun ls hl => ?_)
                          exact ih.2 _ _ _ _ _ _ _ _ _ _ _ _ h.1 (Nat.lt_of_lt_of_le h.2 (Nat.le_of_lt_succ hmu)) (hP.sub [2, 3, 4, 5, 6, 7, 8, 9, 10, 11, 0, 1] rfl) (hD.sub [2, 3, 4, 5, 6, 7, 8, 9, 10, 11, 0, 1] (by decide) rfl) hS (lv_sub hl [3, 4, 5, 6, 7, 1, 0, 8, 9, 2] rfl)
                        · have h := h.1 c_40
                          refine lv_iconst (v := 1) hx hb dL_areShapes_145 (by decide) ?_
                          refine lv_goto (tgt := 150) hx hb dL_areShapes_146 (by decide) ?_
                          refine lv_istore (lv' := [(6, .int 1), (5, .int y_24), (9, .int y_23), (0, .ref xh), (1, .ref qb), (2, .ref qg), (3, .int p3), (4, .int x4), (7, .int x7), (8, .int x8)]) hx hb dL_areShapes_150 hl (by decide) rfl (fun ls hl => ?_)
                          exact ih.2 _ _ _ _ _ _ _ _ _ _ _ _ h.1 (Nat.lt_of_lt_of_le h.2 (Nat.le_of_lt_succ hmu)) (hP.sub [2, 3, 4, 5, 6, 7, 8, 9, 10, 11, 0, 1] rfl) (hD.sub [2, 3, 4, 5, 6, 7, 8, 9, 10, 11, 0, 1] (by decide) rfl) hS (lv_sub hl [3, 4, 5, 6, 7, 1, 0, 8, 9, 2] rfl)
      · intro x4 x5 x6 x7 x8 x9 cnt' call' swf' H locs ls hI hmu hP hD hS hl
        have h := hv152 x4 x5 x6 x7 x8 x9 cnt' call' swf' hI
        unfold vs_L_areShapes_152 at h
        obtain ⟨y_41, ey_41⟩ : ∃ y : Int32, y = x8 + 1 := ⟨_, rfl⟩
        have h := h y_41 ey_41
        refine lv_iinc (v := y_41) (lv' := [(8, .int y_41), (0, .ref xh), (1, .ref qb), (2, .ref qg), (3, .int p3), (4, .int x4), (5, .int x5), (6, .int x6), (7, .int x7), (9, .int x9)]) hx hb dL_areShapes_152 hl (k := 8) rfl (by rw [ey_41]; rfl) (by decide) rfl (fun ls hl => ?_)
        refine lv_goto (tgt := 61) hx hb dL_areShapes_155 (by decide) ?_
        exact ih.1 _ _ _ _ _ _ _ _ _ _ _ h.1 (Nat.lt_of_lt_of_le h.2 (Nat.le_of_lt_succ hmu)) (hP.sub [0, 1, 2, 3, 4, 5, 6, 7, 8, 9, 10, 11] rfl) (hD.sub [0, 1, 2, 3, 4, 5, 6, 7, 8, 9, 10, 11] (by decide) rfl) hS (lv_sub hl [1, 2, 3, 4, 5, 6, 7, 8, 0] rfl)
  have L61 := fun N => (LL61 N).1
  have L152 := fun N => (LL61 N).2
  have L58 : ∀ (N : Nat) (x4 : Int32) (x5 : Int32) (x6 : Int32) (x7 : Int32) (cnt' : Int32) (call' : Int32) (swf' : Nat → Int32) (H : Heap) (locs : List Loc) (ls : Array Slot), I58 x4 x5 x6 x7 cnt' call' swf' → mu58 x4 x5 x6 x7 cnt' call' swf' < N → va_P D vwCl [(xh, .inr (4, [.ref ch, .ref bh, .ref lg, .int lgd, .ref sh, .ref vh])), (ch, .inr (0, [.ref ca, .int ccc, .int cac, .int cfc, .int clc])), (ca, .inl (cI, 10, .inl cf)), (bh, .inr (0, [.ref ba, .int bcc, .int bac, .int bfc, .int blc])), (ba, .inl (cI, 10, .inl bf)), (lg, .inl (cI, 12, .inl lgf)), (sh, .inr (2, [.ref sa, .int cnt', .int call'])), (sa, .inl (cI, 12, .inl swf')), (vh, .inr (3, [.ref va])), (va, .inl (cI, 12, .inl fnf)), (qb, .inl (cI, 12, .inl fb)), (qg, .inl (cI, 3, .inl fg))] H → va_D A [(xh, .inr (4, [.ref ch, .ref bh, .ref lg, .int lgd, .ref sh, .ref vh])), (ch, .inr (0, [.ref ca, .int ccc, .int cac, .int cfc, .int clc])), (ca, .inl (cI, 10, .inl cf)), (bh, .inr (0, [.ref ba, .int bcc, .int bac, .int bfc, .int blc])), (ba, .inl (cI, 10, .inl bf)), (lg, .inl (cI, 12, .inl lgf)), (sh, .inr (2, [.ref sa, .int cnt', .int call'])), (sa, .inl (cI, 12, .inl swf')), (vh, .inr (3, [.ref va])), (va, .inl (cI, 12, .inl fnf)), (qb, .inl (cI, 12, .inl fb)), (qg, .inl (cI, 3, .inl fg))] → va_S A s.heap H locs → lv_has ls 10 [(0, .ref xh), (1, .ref qb), (2, .ref qg), (3, .int p3), (4, .int x4), (5, .int x5), (6, .int x6), (7, .int x7)] → W p l e ({ frames := 6, cells := 0, slots := 0, locals := 134 } : Room) s m args below meth c H locs 0 0 Q (F0 m 58 ls []) := by
    intro N
    induction N with
    | zero => intros; rename_i hz _ _ _ _; exact absurd hz (Nat.not_lt_zero _)
    | succ N ih =>
      intro x4 x5 x6 x7 cnt' call' swf' H locs ls hI hmu hP hD hS hl
      have h := hv58 x4 x5 x6 x7 cnt' call' swf' hI
      unfold vs_L_areShapes_58 at h
      refine lv_iconst (v := 0) hx hb dL_areShapes_58 (by decide) ?_
      refine lv_istore (lv' := [(8, .int 0), (0, .ref xh), (1, .ref qb), (2, .ref qg), (3, .int p3), (4, .int x4), (5, .int x5), (6, .int x6), (7, .int x7)]) hx hb dL_areShapes_59 hl (by decide) rfl (fun ls hl => ?_)
      exact L61 _ _ _ _ _ _ _ _ _ _ _ _ h (Nat.lt_succ_self _) (hP.sub [0, 1, 2, 3, 4, 5, 6, 7, 8, 9, 10, 11] rfl) (hD.sub [0, 1, 2, 3, 4, 5, 6, 7, 8, 9, 10, 11] (by decide) rfl) hS (lv_sub hl [1, 2, 3, 4, 5, 6, 7, 8, 0] rfl)
  have L33 : ∀ (N : Nat) (x4 : Int32) (x5 : Int32) (x6 : Int32) (cnt' : Int32) (call' : Int32) (swf' : Nat → Int32) (H : Heap) (locs : List Loc) (ls : Array Slot), I33 x4 x5 x6 cnt' call' swf' → mu33 x4 x5 x6 cnt' call' swf' < N → va_P D vwCl [(xh, .inr (4, [.ref ch, .ref bh, .ref lg, .int lgd, .ref sh, .ref vh])), (ch, .inr (0, [.ref ca, .int ccc, .int cac, .int cfc, .int clc])), (ca, .inl (cI, 10, .inl cf)), (bh, .inr (0, [.ref ba, .int bcc, .int bac, .int bfc, .int blc])), (ba, .inl (cI, 10, .inl bf)), (lg, .inl (cI, 12, .inl lgf)), (sh, .inr (2, [.ref sa, .int cnt', .int call'])), (sa, .inl (cI, 12, .inl swf')), (vh, .inr (3, [.ref va])), (va, .inl (cI, 12, .inl fnf)), (qb, .inl (cI, 12, .inl fb)), (qg, .inl (cI, 3, .inl fg))] H → va_D A [(xh, .inr (4, [.ref ch, .ref bh, .ref lg, .int lgd, .ref sh, .ref vh])), (ch, .inr (0, [.ref ca, .int ccc, .int cac, .int cfc, .int clc])), (ca, .inl (cI, 10, .inl cf)), (bh, .inr (0, [.ref ba, .int bcc, .int bac, .int bfc, .int blc])), (ba, .inl (cI, 10, .inl bf)), (lg, .inl (cI, 12, .inl lgf)), (sh, .inr (2, [.ref sa, .int cnt', .int call'])), (sa, .inl (cI, 12, .inl swf')), (vh, .inr (3, [.ref va])), (va, .inl (cI, 12, .inl fnf)), (qb, .inl (cI, 12, .inl fb)), (qg, .inl (cI, 3, .inl fg))] → va_S A s.heap H locs → lv_has ls 10 [(0, .ref xh), (1, .ref qb), (2, .ref qg), (3, .int p3), (4, .int x4), (5, .int x5), (6, .int x6)] → W p l e ({ frames := 6, cells := 0, slots := 0, locals := 134 } : Room) s m args below meth c H locs 0 0 Q (F0 m 33 ls []) := by
    intro N
    induction N with
    | zero => intros; rename_i hz _ _ _ _; exact absurd hz (Nat.not_lt_zero _)
    | succ N ih =>
      intro x4 x5 x6 cnt' call' swf' H locs ls hI hmu hP hD hS hl
      have h := hv33 x4 x5 x6 cnt' call' swf' hI
      unfold vs_L_areShapes_33 at h
      refine lv_aload_n hx hb dL_areShapes_33 rfl (lv_at hl 1 rfl) ?_
      refine lv_iload_n hx hb dL_areShapes_34 rfl (lv_at hl 3 rfl) ?_
      obtain ⟨i_42, h⟩ := h
      refine va_iald hx hb hK hP 10 0 rfl rfl i_42 dL_areShapes_35 ?_
      refine lv_if_ne (tgt := 43) hx hb dL_areShapes_36 (by decide) (fun c_43 => ?_) (fun c_43 => ?_)
      · have h := h.2 c_43
        refine lv_aload_n hx hb dL_areShapes_43 rfl (lv_at hl 2 rfl) ?_
        refine lv_iload_n hx hb dL_areShapes_44 rfl (lv_at hl 3 rfl) ?_
        refine lv_aload_n hx hb dL_areShapes_45 rfl (lv_at hl 1 rfl) ?_
        refine lv_aload_n hx hb dL_areShapes_46 rfl (lv_at hl 2 rfl) ?_
        refine lv_aload_n hx hb dL_areShapes_47 rfl (lv_at hl 1 rfl) ?_
        refine lv_iload_n hx hb dL_areShapes_48 rfl (lv_at hl 3 rfl) ?_
        obtain ⟨i_44, h⟩ := h
        refine va_iald hx hb hK hP 10 0 rfl rfl i_44 dL_areShapes_49 ?_
        obtain ⟨p_45, h⟩ := h
        have hPc := hP.sub (ws' := [(qb, .inl (cI, 12, .inl fb)), (qg, .inl (cI, 3, .inl fg))]) [10, 11] rfl
        have hDc := hD.sub (ws' := [(qb, .inl (cI, 12, .inl fb)), (qg, .inl (cI, 3, .inl fg))]) [10, 11] (by decide) rfl
        refine ff_callI (va_runS (As := [.ref qb, .ref qg, .int (fb p3.toNatClampNeg)]) (rest := [.int p3, .ref qg]) ⟨hx, hb, hml, hown, hts⟩ (c_L_cellsOf l D cI qb qg H.size fb fg (fb p3.toNatClampNeg) p_45) (va_cwS 3 hts gL_areShapes_L_cellsOf rfl rfl rfl (by decide +kernel) ⟨Nat.le_of_ble_eq_true rfl, Nat.le_of_ble_eq_true rfl⟩) (ff_preS hPc hK hDc hN) rfl rfl hl.1 rfl (lv_room (Nat.le_of_ble_eq_true rfl)) dL_areShapes_50 ⟨Nat.le_of_ble_eq_true rfl, Nat.le_of_ble_eq_true rfl⟩) hP hD hS hA [10, 11] [0, 1, 2, 3, 4, 5, 6, 7, 8, 9] (wr := [(xh, .inr (4, [.ref ch, .ref bh, .ref lg, .int lgd, .ref sh, .ref vh])), (ch, .inr (0, [.ref ca, .int ccc, .int cac, .int cfc, .int clc])), (ca, .inl (cI, 10, .inl cf)), (bh, .inr (0, [.ref ba, .int bcc, .int bac, .int bfc, .int blc])), (ba, .inl (cI, 10, .inl bf)), (lg, .inl (cI, 12, .inl lgf)), (sh, .inr (2, [.ref sa, .int cnt', .int call'])), (sa, .inl (cI, 12, .inl swf')), (vh, .inr (3, [.ref va])), (va, .inl (cI, 12, .inl fnf))]) rfl rfl (by decide) (by decide) (fun r u H locs hw hP hD hS => ?_)
        replace hw := hw.symm
        subst hw
        have hP : va_P D vwCl [(xh, .inr (4, [.ref ch, .ref bh, .ref lg, .int lgd, .ref sh, .ref vh])), (ch, .inr (0, [.ref ca, .int ccc, .int cac, .int cfc, .int clc])), (ca, .inl (cI, 10, .inl cf)), (bh, .inr (0, [.ref ba, .int bcc, .int bac, .int bfc, .int blc])), (ba, .inl (cI, 10, .inl bf)), (lg, .inl (cI, 12, .inl lgf)), (sh, .inr (2, [.ref sa, .int cnt', .int call'])), (sa, .inl (cI, 12, .inl swf')), (vh, .inr (3, [.ref va])), (va, .inl (cI, 12, .inl fnf)), (qb, .inl (cI, 12, .inl fb)), (qg, .inl (cI, 3, .inl fg))] H := hP
        have hD : va_D A [(xh, .inr (4, [.ref ch, .ref bh, .ref lg, .int lgd, .ref sh, .ref vh])), (ch, .inr (0, [.ref ca, .int ccc, .int cac, .int cfc, .int clc])), (ca, .inl (cI, 10, .inl cf)), (bh, .inr (0, [.ref ba, .int bcc, .int bac, .int bfc, .int blc])), (ba, .inl (cI, 10, .inl bf)), (lg, .inl (cI, 12, .inl lgf)), (sh, .inr (2, [.ref sa, .int cnt', .int call'])), (sa, .inl (cI, 12, .inl swf')), (vh, .inr (3, [.ref va])), (va, .inl (cI, 12, .inl fnf)), (qb, .inl (cI, 12, .inl fb)), (qg, .inl (cI, 3, .inl fg))] := hD
        obtain ⟨p_46, h⟩ := h
        have hPc := hP.sub (ws' := [(qg, .inl (cI, 3, .inl fg))]) [11] rfl
        have hDc := hD.sub (ws' := [(qg, .inl (cI, 3, .inl fg))]) [11] (by decide) rfl
        refine ff_callI (va_runS (As := [.ref qg, .int p3, .int (lco fb (fb p3.toNatClampNeg) (mN (fg 0) (fg 1)))]) (rest := []) ⟨hx, hb, hml, hown, hts⟩ (c_L_over l D cI qg H.size fg p3 (lco fb (fb p3.toNatClampNeg) (mN (fg 0) (fg 1))) p_46) (va_cwS 3 hts gL_areShapes_L_over rfl rfl rfl (by decide +kernel) ⟨Nat.le_of_ble_eq_true rfl, Nat.le_of_ble_eq_true rfl⟩) (ff_preS hPc hK hDc hN) rfl rfl hl.1 rfl (lv_room (Nat.le_of_ble_eq_true rfl)) dL_areShapes_53 ⟨Nat.le_of_ble_eq_true rfl, Nat.le_of_ble_eq_true rfl⟩) hP hD hS hA [11] [0, 1, 2, 3, 4, 5, 6, 7, 8, 9, 10] (wr := [(xh, .inr (4, [.ref ch, .ref bh, .ref lg, .int lgd, .ref sh, .ref vh])), (ch, .inr (0, [.ref ca, .int ccc, .int cac, .int cfc, .int clc])), (ca, .inl (cI, 10, .inl cf)), (bh, .inr (0, [.ref ba, .int bcc, .int bac, .int bfc, .int blc])), (ba, .inl (cI, 10, .inl bf)), (lg, .inl (cI, 12, .inl lgf)), (sh, .inr (2, [.ref sa, .int cnt', .int call'])), (sa, .inl (cI, 12, .inl swf')), (vh, .inr (3, [.ref va])), (va, .inl (cI, 12, .inl fnf)), (qb, .inl (cI, 12, .inl fb))]) rfl rfl (by decide) (by decide) (fun r u H locs hw hP hD hS => ?_)
        replace hw := hw.symm
        subst hw
        have hP : va_P D vwCl [(xh, .inr (4, [.ref ch, .ref bh, .ref lg, .int lgd, .ref sh, .ref vh])), (ch, .inr (0, [.ref ca, .int ccc, .int cac, .int cfc, .int clc])), (ca, .inl (cI, 10, .inl cf)), (bh, .inr (0, [.ref ba, .int bcc, .int bac, .int bfc, .int blc])), (ba, .inl (cI, 10, .inl bf)), (lg, .inl (cI, 12, .inl lgf)), (sh, .inr (2, [.ref sa, .int cnt', .int call'])), (sa, .inl (cI, 12, .inl swf')), (vh, .inr (3, [.ref va])), (va, .inl (cI, 12, .inl fnf)), (qb, .inl (cI, 12, .inl fb)), (qg, .inl (cI, 3, .inl fg))] H := hP
        have hD : va_D A [(xh, .inr (4, [.ref ch, .ref bh, .ref lg, .int lgd, .ref sh, .ref vh])), (ch, .inr (0, [.ref ca, .int ccc, .int cac, .int cfc, .int clc])), (ca, .inl (cI, 10, .inl cf)), (bh, .inr (0, [.ref ba, .int bcc, .int bac, .int bfc, .int blc])), (ba, .inl (cI, 10, .inl bf)), (lg, .inl (cI, 12, .inl lgf)), (sh, .inr (2, [.ref sa, .int cnt', .int call'])), (sa, .inl (cI, 12, .inl swf')), (vh, .inr (3, [.ref va])), (va, .inl (cI, 12, .inl fnf)), (qb, .inl (cI, 12, .inl fb)), (qg, .inl (cI, 3, .inl fg))] := hD
        refine lv_topi (fun y_47 ey_47 => ?_)
        have h := h y_47 ey_47
        refine lv_istore (lv' := [(7, .int y_47), (0, .ref xh), (1, .ref qb), (2, .ref qg), (3, .int p3), (4, .int x4), (5, .int x5), (6, .int x6)]) hx hb dL_areShapes_56 hl (by decide) rfl (fun ls hl => ?_)
        exact L58 _ _ _ _ _ _ _ _ _ _ _ h (Nat.lt_succ_self _) (hP.sub [0, 1, 2, 3, 4, 5, 6, 7, 8, 9, 10, 11] rfl) (hD.sub [0, 1, 2, 3, 4, 5, 6, 7, 8, 9, 10, 11] (by decide) rfl) hS (lv_sub hl [1, 2, 3, 4, 5, 6, 7, 0] rfl)
      · have h := h.1 c_43
        refine lv_iconst (v := 0) hx hb dL_areShapes_39 (by decide) ?_
        refine lv_goto (tgt := 56) hx hb dL_areShapes_40 (by decide) ?_
        refine lv_istore (lv' := [(7, .int 0), (0, .ref xh), (1, .ref qb), (2, .ref qg), (3, .int p3), (4, .int x4), (5, .int x5), (6, .int x6)]) hx hb dL_areShapes_56 hl (by decide) rfl (fun ls hl => ?_)
        exact L58 _ _ _ _ _ _ _ _ _ _ _ h (Nat.lt_succ_self _) (hP.sub [0, 1, 2, 3, 4, 5, 6, 7, 8, 9, 10, 11] rfl) (hD.sub [0, 1, 2, 3, 4, 5, 6, 7, 8, 9, 10, 11] (by decide) rfl) hS (lv_sub hl [1, 2, 3, 4, 5, 6, 7, 0] rfl)
  have h := he
  unfold ve_L_areShapes at h
  have hl : lv_has ls 10 [(0, .ref xh), (1, .ref qb), (2, .ref qg), (3, .int p3)] := hl
  refine lv_aload_n hx hb dL_areShapes_0 rfl (lv_at hl 0 rfl) ?_
  refine lv_iload_n hx hb dL_areShapes_1 rfl (lv_at hl 3 rfl) ?_
  obtain ⟨p_48, h⟩ := h
  have hPc := hP.sub (ws' := [(xh, .inr (4, [.ref ch, .ref bh, .ref lg, .int lgd, .ref sh, .ref vh])), (ch, .inr (0, [.ref ca, .int ccc, .int cac, .int cfc, .int clc])), (ca, .inl (cI, 10, .inl cf)), (bh, .inr (0, [.ref ba, .int bcc, .int bac, .int bfc, .int blc])), (ba, .inl (cI, 10, .inl bf)), (lg, .inl (cI, 12, .inl lgf)), (sh, .inr (2, [.ref sa, .int cnt, .int call])), (sa, .inl (cI, 12, .inl swf)), (vh, .inr (3, [.ref va])), (va, .inl (cI, 12, .inl fnf))]) [0, 1, 2, 3, 4, 5, 6, 7, 8, 9] rfl
  have hDc := hD.sub (ws' := [(xh, .inr (4, [.ref ch, .ref bh, .ref lg, .int lgd, .ref sh, .ref vh])), (ch, .inr (0, [.ref ca, .int ccc, .int cac, .int cfc, .int clc])), (ca, .inl (cI, 10, .inl cf)), (bh, .inr (0, [.ref ba, .int bcc, .int bac, .int bfc, .int blc])), (ba, .inl (cI, 10, .inl bf)), (lg, .inl (cI, 12, .inl lgf)), (sh, .inr (2, [.ref sa, .int cnt, .int call])), (sa, .inl (cI, 12, .inl swf)), (vh, .inr (3, [.ref va])), (va, .inl (cI, 12, .inl fnf))]) [0, 1, 2, 3, 4, 5, 6, 7, 8, 9] (by decide) rfl
  refine ff_callI (va_runV (As := [.int p3]) (rest := []) ⟨hx, hb, hml, hown, hts⟩ (c_X4_shapesN l D cI xh ch ca bh ba lg sh sa vh va H.size lgd ccc cac cfc clc cf bcc bac bfc blc bf lgf cnt call swf fnf p3 p_48) (cwV 1 hts gL_areShapes_X4_shapes rfl rfl rfl (by decide +kernel) ⟨Nat.le_of_ble_eq_true rfl, Nat.le_of_ble_eq_true rfl⟩) (ff_preV (q := (RX4, TX4, 6)) (ci := 4) (q0 := 0) hPc hK hDc hN rfl rfl) rfl rfl hl.1 rfl (lv_room (Nat.le_of_ble_eq_true rfl)) dL_areShapes_2 ⟨Nat.le_of_ble_eq_true rfl, Nat.le_of_ble_eq_true rfl⟩) hP hD hS hA [0, 1, 2, 3, 4, 5, 6, 7, 8, 9] [10, 11] (wr := [(qb, .inl (cI, 12, .inl fb)), (qg, .inl (cI, 3, .inl fg))]) rfl rfl (by decide) (by decide) (fun r u H locs hw hP hD hS => ?_)
  obtain ⟨cnt_49, call_49, swf_49⟩ := u
  have hw : r = (zli bcc bac bfc blc bf p3 swf).1 := hw
  have e0_w := hw
  replace e0_w := e0_w.symm
  subst e0_w
  have h := h cnt_49 call_49 swf_49
  have hP : va_P D vwCl [(qb, .inl (cI, 12, .inl fb)), (qg, .inl (cI, 3, .inl fg)), (xh, .inr (4, [.ref ch, .ref bh, .ref lg, .int lgd, .ref sh, .ref vh])), (ch, .inr (0, [.ref ca, .int ccc, .int cac, .int cfc, .int clc])), (ca, .inl (cI, 10, .inl cf)), (bh, .inr (0, [.ref ba, .int bcc, .int bac, .int bfc, .int blc])), (ba, .inl (cI, 10, .inl bf)), (lg, .inl (cI, 12, .inl lgf)), (sh, .inr (2, [.ref sa, .int cnt_49, .int call_49])), (sa, .inl (cI, 12, .inl swf_49)), (vh, .inr (3, [.ref va])), (va, .inl (cI, 12, .inl fnf))] H := hP
  have hD : va_D A [(qb, .inl (cI, 12, .inl fb)), (qg, .inl (cI, 3, .inl fg)), (xh, .inr (4, [.ref ch, .ref bh, .ref lg, .int lgd, .ref sh, .ref vh])), (ch, .inr (0, [.ref ca, .int ccc, .int cac, .int cfc, .int clc])), (ca, .inl (cI, 10, .inl cf)), (bh, .inr (0, [.ref ba, .int bcc, .int bac, .int bfc, .int blc])), (ba, .inl (cI, 10, .inl bf)), (lg, .inl (cI, 12, .inl lgf)), (sh, .inr (2, [.ref sa, .int cnt_49, .int call_49])), (sa, .inl (cI, 12, .inl swf_49)), (vh, .inr (3, [.ref va])), (va, .inl (cI, 12, .inl fnf))] := hD
  refine lv_topi (fun y_50 ey_50 => ?_)
  have h := h y_50 ey_50
  refine lv_istore (lv' := [(4, .int y_50), (0, .ref xh), (1, .ref qb), (2, .ref qg), (3, .int p3)]) hx hb dL_areShapes_5 hl (by decide) rfl (fun ls hl => ?_)
  refine lv_iconst (v := 0) hx hb dL_areShapes_7 (by decide) ?_
  refine lv_istore (lv' := [(5, .int 0), (4, .int y_50), (0, .ref xh), (1, .ref qb), (2, .ref qg), (3, .int p3)]) hx hb dL_areShapes_8 hl (by decide) rfl (fun ls hl => ?_)
  refine lv_iload hx hb dL_areShapes_10 (lv_at hl 1 rfl) ?_
  refine lv_if_lt (tgt := 30) hx hb dL_areShapes_12 (by decide) (fun c_51 => ?_) (fun c_51 => ?_)
  · have h := h.1 c_51
    refine lv_iconst (v := 0) hx hb dL_areShapes_30 (by decide) ?_
    refine lv_istore (lv' := [(6, .int 0), (5, .int 0), (4, .int y_50), (0, .ref xh), (1, .ref qb), (2, .ref qg), (3, .int p3)]) hx hb dL_areShapes_31 hl (by decide) rfl (fun ls hl => ?_)
    exact L33 _ _ _ _ _ _ _ _ _ _ h (Nat.lt_succ_self _) (hP.sub [2, 3, 4, 5, 6, 7, 8, 9, 10, 11, 0, 1] rfl) (hD.sub [2, 3, 4, 5, 6, 7, 8, 9, 10, 11, 0, 1] (by decide) rfl) hS (lv_sub hl [3, 4, 5, 6, 2, 1, 0] rfl)
  · have h := h.2 c_51
    refine lv_aload_n hx hb dL_areShapes_15 rfl (lv_at hl 3 rfl) ?_
    refine lv_iload_n hx hb dL_areShapes_16 rfl (lv_at hl 5 rfl) ?_
    obtain ⟨i_52, h⟩ := h
    refine va_iald hx hb hK hP 0 0 rfl rfl i_52 dL_areShapes_17 ?_
    refine lv_if_gt (tgt := 26) hx hb dL_areShapes_18 (by decide) (fun c_53 => ?_) (fun c_53 => ?_)
    · have h := h.1 c_53
      refine lv_iconst (v := 1) hx hb dL_areShapes_26 (by decide) ?_
      refine lv_goto (tgt := 31) hx hb dL_areShapes_27 (by decide) ?_
      refine lv_istore (lv' := [(6, .int 1), (5, .int 0), (4, .int y_50), (0, .ref xh), (1, .ref qb), (2, .ref qg), (3, .int p3)]) hx hb dL_areShapes_31 hl (by decide) rfl (fun ls hl => ?_)
      exact L33 _ _ _ _ _ _ _ _ _ _ h (Nat.lt_succ_self _) (hP.sub [2, 3, 4, 5, 6, 7, 8, 9, 10, 11, 0, 1] rfl) (hD.sub [2, 3, 4, 5, 6, 7, 8, 9, 10, 11, 0, 1] (by decide) rfl) hS (lv_sub hl [3, 4, 5, 6, 2, 1, 0] rfl)
    · have h := h.2 c_53
      refine lv_iload hx hb dL_areShapes_21 (lv_at hl 1 rfl) ?_
      refine lv_if_ne (tgt := 30) hx hb dL_areShapes_23 (by decide) (fun c_54 => ?_) (fun c_54 => ?_)
      · have h := h.2 c_54
        refine lv_iconst (v := 0) hx hb dL_areShapes_30 (by decide) ?_
        refine lv_istore (lv' := [(6, .int 0), (5, .int 0), (4, .int y_50), (0, .ref xh), (1, .ref qb), (2, .ref qg), (3, .int p3)]) hx hb dL_areShapes_31 hl (by decide) rfl (fun ls hl => ?_)
        exact L33 _ _ _ _ _ _ _ _ _ _ h (Nat.lt_succ_self _) (hP.sub [2, 3, 4, 5, 6, 7, 8, 9, 10, 11, 0, 1] rfl) (hD.sub [2, 3, 4, 5, 6, 7, 8, 9, 10, 11, 0, 1] (by decide) rfl) hS (lv_sub hl [3, 4, 5, 6, 2, 1, 0] rfl)
      · have h := h.1 c_54
        refine lv_iconst (v := 1) hx hb dL_areShapes_26 (by decide) ?_
        refine lv_goto (tgt := 31) hx hb dL_areShapes_27 (by decide) ?_
        refine lv_istore (lv' := [(6, .int 1), (5, .int 0), (4, .int y_50), (0, .ref xh), (1, .ref qb), (2, .ref qg), (3, .int p3)]) hx hb dL_areShapes_31 hl (by decide) rfl (fun ls hl => ?_)
        exact L33 _ _ _ _ _ _ _ _ _ _ h (Nat.lt_succ_self _) (hP.sub [2, 3, 4, 5, 6, 7, 8, 9, 10, 11, 0, 1] rfl) (hD.sub [2, 3, 4, 5, 6, 7, 8, 9, 10, 11, 0, 1] (by decide) rfl) hS (lv_sub hl [3, 4, 5, 6, 2, 1, 0] rfl)
theorem c_L_areShapes (l : Launch) (D : va_G) (cI : ClassId) (xh ch ca bh ba lg sh sa vh va qb qg : Nat) (sz : Nat) (lgd : Int32) (ccc : Int32) (cac : Int32) (cfc : Int32) (clc : Int32) (cf : Nat → Int32) (bcc : Int32) (bac : Int32) (bfc : Int32) (blc : Int32) (bf : Nat → Int32) (lgf : Nat → Int32) (cnt : Int32) (call : Int32) (swf : Nat → Int32) (fnf : Nat → Int32) (fb : Nat → Int32) (fg : Nat → Int32) (p3 : Int32) (hpre : (∃ z, PK ccc cac cfc clc cf bcc bac bfc blc bf fb z fg) ∧ cel fg p3) : Met l yL_areShapes wsL_areShapes ({ frames := 6, cells := 0, slots := 0, locals := 134 } : Room) (ff_Pc D [(cI, .int)] [.ref xh, .ref qb, .ref qg, .int p3] ([(xh, .inr (4, [.ref ch, .ref bh, .ref lg, .int lgd, .ref sh, .ref vh])), (ch, .inr (0, [.ref ca, .int ccc, .int cac, .int cfc, .int clc])), (ca, .inl (cI, 10, .inl cf)), (bh, .inr (0, [.ref ba, .int bcc, .int bac, .int bfc, .int blc])), (ba, .inl (cI, 10, .inl bf)), (lg, .inl (cI, 12, .inl lgf)), (sh, .inr (2, [.ref sa, .int cnt, .int call])), (sa, .inl (cI, 12, .inl swf)), (vh, .inr (3, [.ref va])), (va, .inl (cI, 12, .inl fnf)), (qb, .inl (cI, 12, .inl fb)), (qg, .inl (cI, 3, .inl fg))] : va_W) sz) (va_Qi (fun (r : Int32) (u : Int32 × Int32 × (Nat → Int32)) => r = 1) (fun (u : Int32 × Int32 × (Nat → Int32)) t => ff_B D [(cI, .int)] (va_A ([(xh, .inr (4, [.ref ch, .ref bh, .ref lg, .int lgd, .ref sh, .ref vh])), (ch, .inr (0, [.ref ca, .int ccc, .int cac, .int cfc, .int clc])), (ca, .inl (cI, 10, .inl cf)), (bh, .inr (0, [.ref ba, .int bcc, .int bac, .int bfc, .int blc])), (ba, .inl (cI, 10, .inl bf)), (lg, .inl (cI, 12, .inl lgf)), (sh, .inr (2, [.ref sa, .int cnt, .int call])), (sa, .inl (cI, 12, .inl swf)), (vh, .inr (3, [.ref va])), (va, .inl (cI, 12, .inl fnf)), (qb, .inl (cI, 12, .inl fb)), (qg, .inl (cI, 3, .inl fg))] : va_W) sz) [(xh, .inr (4, [.ref ch, .ref bh, .ref lg, .int lgd, .ref sh, .ref vh])), (ch, .inr (0, [.ref ca, .int ccc, .int cac, .int cfc, .int clc])), (ca, .inl (cI, 10, .inl cf)), (bh, .inr (0, [.ref ba, .int bcc, .int bac, .int bfc, .int blc])), (ba, .inl (cI, 10, .inl bf)), (lg, .inl (cI, 12, .inl lgf)), (sh, .inr (2, [.ref sa, .int (u.1), .int (u.2.1)])), (sa, .inl (cI, 12, .inl (u.2.2))), (vh, .inr (3, [.ref va])), (va, .inl (cI, 12, .inl fnf)), (qb, .inl (cI, 12, .inl fb)), (qg, .inl (cI, 3, .inl fg))] t) (va_A ([(xh, .inr (4, [.ref ch, .ref bh, .ref lg, .int lgd, .ref sh, .ref vh])), (ch, .inr (0, [.ref ca, .int ccc, .int cac, .int cfc, .int clc])), (ca, .inl (cI, 10, .inl cf)), (bh, .inr (0, [.ref ba, .int bcc, .int bac, .int bfc, .int blc])), (ba, .inl (cI, 10, .inl bf)), (lg, .inl (cI, 12, .inl lgf)), (sh, .inr (2, [.ref sa, .int cnt, .int call])), (sa, .inl (cI, 12, .inl swf)), (vh, .inr (3, [.ref va])), (va, .inl (cI, 12, .inl fnf)), (qb, .inl (cI, 12, .inl fb)), (qg, .inl (cI, 3, .inl fg))] : va_W) sz)) 0 0 (va_A ([(xh, .inr (4, [.ref ch, .ref bh, .ref lg, .int lgd, .ref sh, .ref vh])), (ch, .inr (0, [.ref ca, .int ccc, .int cac, .int cfc, .int clc])), (ca, .inl (cI, 10, .inl cf)), (bh, .inr (0, [.ref ba, .int bcc, .int bac, .int bfc, .int blc])), (ba, .inl (cI, 10, .inl bf)), (lg, .inl (cI, 12, .inl lgf)), (sh, .inr (2, [.ref sa, .int cnt, .int call])), (sa, .inl (cI, 12, .inl swf)), (vh, .inr (3, [.ref va])), (va, .inl (cI, 12, .inl fnf)), (qb, .inl (cI, 12, .inl fb)), (qg, .inl (cI, 3, .inl fg))] : va_W) sz) :=
  a_L_areShapes l D cI xh ch ca bh ba lg sh sa vh va qb qg sz lgd ccc cac cfc clc cf bcc bac bfc blc bf lgf cnt call swf fnf fb fg p3 _ (I_L_areShapes_33 lgd ccc cac cfc clc cf bcc bac bfc blc bf lgf cnt call swf fnf fb fg p3) (mu_L_areShapes_33 lgd ccc cac cfc clc cf bcc bac bfc blc bf lgf cnt call swf fnf fb fg p3) (I_L_areShapes_58 lgd ccc cac cfc clc cf bcc bac bfc blc bf lgf cnt call swf fnf fb fg p3) (mu_L_areShapes_58 lgd ccc cac cfc clc cf bcc bac bfc blc bf lgf cnt call swf fnf fb fg p3) (I_L_areShapes_61 lgd ccc cac cfc clc cf bcc bac bfc blc bf lgf cnt call swf fnf fb fg p3) (mu_L_areShapes_61 lgd ccc cac cfc clc cf bcc bac bfc blc bf lgf cnt call swf fnf fb fg p3) (I_L_areShapes_152 lgd ccc cac cfc clc cf bcc bac bfc blc bf lgf cnt call swf fnf fb fg p3) (mu_L_areShapes_152 lgd ccc cac cfc clc cf bcc bac bfc blc bf lgf cnt call swf fnf fb fg p3) (pl_L_areShapes_33 lgd ccc cac cfc clc cf bcc bac bfc blc bf lgf cnt call swf fnf fb fg p3 hpre) (pl_L_areShapes_58 lgd ccc cac cfc clc cf bcc bac bfc blc bf lgf cnt call swf fnf fb fg p3 hpre) (pl_L_areShapes_61 lgd ccc cac cfc clc cf bcc bac bfc blc bf lgf cnt call swf fnf fb fg p3 hpre) (pl_L_areShapes_152 lgd ccc cac cfc clc cf bcc bac bfc blc bf lgf cnt call swf fnf fb fg p3 hpre) (pe_L_areShapes lgd ccc cac cfc clc cf bcc bac bfc blc bf lgf cnt call swf fnf fb fg p3 hpre)
