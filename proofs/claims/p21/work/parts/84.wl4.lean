set_option maxHeartbeats 4000000 in
set_option maxRecDepth 100000 in
theorem a_L_makes (l : Launch) (D : va_G) (cI : ClassId) (xh ch ca bh ba lg sh sa vh va qb qk qg : Nat) (sz : Nat) (lgd : Int32) (ccc : Int32) (cac : Int32) (cfc : Int32) (clc : Int32) (cf : Nat → Int32) (bcc : Int32) (bac : Int32) (bfc : Int32) (blc : Int32) (bf : Nat → Int32) (lgf : Nat → Int32) (cnt : Int32) (call : Int32) (swf : Nat → Int32) (fnf : Nat → Int32) (fb : Nat → Int32) (fk : Nat → Int32) (fg : Nat → Int32) (p1 : Int32) (P : Int32 → ((Nat → Int32) × Int32 × Int32 × Int32 × Int32 × (Nat → Int32) × Int32 × (Nat → Int32) × (Nat → Int32) × (Nat → Int32) × (Nat → Int32)) → Prop) (I13 : Int32 → Int32 → Int32 → (Nat → Int32) → Int32 → Int32 → Int32 → Int32 → (Nat → Int32) → Int32 → (Nat → Int32) → (Nat → Int32) → (Nat → Int32) → (Nat → Int32) → Prop) (mu13 : Int32 → Int32 → Int32 → (Nat → Int32) → Int32 → Int32 → Int32 → Int32 → (Nat → Int32) → Int32 → (Nat → Int32) → (Nat → Int32) → (Nat → Int32) → (Nat → Int32) → Nat) (I120 : Int32 → Int32 → Int32 → Int32 → (Nat → Int32) → Int32 → Int32 → Int32 → Int32 → (Nat → Int32) → Int32 → (Nat → Int32) → (Nat → Int32) → (Nat → Int32) → (Nat → Int32) → Prop) (mu120 : Int32 → Int32 → Int32 → Int32 → (Nat → Int32) → Int32 → Int32 → Int32 → Int32 → (Nat → Int32) → Int32 → (Nat → Int32) → (Nat → Int32) → (Nat → Int32) → (Nat → Int32) → Nat) (hv13 : ∀ (x5 : Int32) (x6 : Int32) (x7 : Int32) (cf' : Nat → Int32) (bcc' : Int32) (bac' : Int32) (bfc' : Int32) (blc' : Int32) (bf' : Nat → Int32) (lgd' : Int32) (fnf' : Nat → Int32) (fb' : Nat → Int32) (fk' : Nat → Int32) (fg' : Nat → Int32), I13 x5 x6 x7 cf' bcc' bac' bfc' blc' bf' lgd' fnf' fb' fk' fg' → vs_L_makes_13 lgd ccc cac cfc clc cf bcc bac bfc blc bf lgf cnt call swf fnf fb fk fg p1 P (fun (x59 : Int32) (x69 : Int32) (x79 : Int32) (cf9 : Nat → Int32) (bcc9 : Int32) (bac9 : Int32) (bfc9 : Int32) (blc9 : Int32) (bf9 : Nat → Int32) (lgd9 : Int32) (fnf9 : Nat → Int32) (fb9 : Nat → Int32) (fk9 : Nat → Int32) (fg9 : Nat → Int32) => I13 x59 x69 x79 cf9 bcc9 bac9 bfc9 blc9 bf9 lgd9 fnf9 fb9 fk9 fg9 ∧ mu13 x59 x69 x79 cf9 bcc9 bac9 bfc9 blc9 bf9 lgd9 fnf9 fb9 fk9 fg9 < mu13 x5 x6 x7 cf' bcc' bac' bfc' blc' bf' lgd' fnf' fb' fk' fg') I120 x5 x6 x7 cf' bcc' bac' bfc' blc' bf' lgd' fnf' fb' fk' fg') (hv120 : ∀ (x5 : Int32) (x6 : Int32) (x7 : Int32) (x8 : Int32) (cf' : Nat → Int32) (bcc' : Int32) (bac' : Int32) (bfc' : Int32) (blc' : Int32) (bf' : Nat → Int32) (lgd' : Int32) (fnf' : Nat → Int32) (fb' : Nat → Int32) (fk' : Nat → Int32) (fg' : Nat → Int32), I120 x5 x6 x7 x8 cf' bcc' bac' bfc' blc' bf' lgd' fnf' fb' fk' fg' → vs_L_makes_120 lgd ccc cac cfc clc cf bcc bac bfc blc bf lgf cnt call swf fnf fb fk fg p1 P I13 (fun (x59 : Int32) (x69 : Int32) (x79 : Int32) (x89 : Int32) (cf9 : Nat → Int32) (bcc9 : Int32) (bac9 : Int32) (bfc9 : Int32) (blc9 : Int32) (bf9 : Nat → Int32) (lgd9 : Int32) (fnf9 : Nat → Int32) (fb9 : Nat → Int32) (fk9 : Nat → Int32) (fg9 : Nat → Int32) => I120 x59 x69 x79 x89 cf9 bcc9 bac9 bfc9 blc9 bf9 lgd9 fnf9 fb9 fk9 fg9 ∧ mu120 x59 x69 x79 x89 cf9 bcc9 bac9 bfc9 blc9 bf9 lgd9 fnf9 fb9 fk9 fg9 < mu120 x5 x6 x7 x8 cf' bcc' bac' bfc' blc' bf' lgd' fnf' fb' fk' fg') x5 x6 x7 x8 cf' bcc' bac' bfc' blc' bf' lgd' fnf' fb' fk' fg') (he : ve_L_makes lgd ccc cac cfc clc cf bcc bac bfc blc bf lgf cnt call swf fnf fb fk fg p1 P I13 I120) : Met l yL_makes wsL_makes ({ frames := 39, cells := 2, slots := 2, locals := 1051 } : Room) (ff_Pc D [(cI, .int)] [.ref xh, .int p1, .ref qb, .ref qk, .ref qg] ([(xh, .inr (4, [.ref ch, .ref bh, .ref lg, .int lgd, .ref sh, .ref vh])), (ch, .inr (0, [.ref ca, .int ccc, .int cac, .int cfc, .int clc])), (ca, .inl (cI, 10, .inl cf)), (bh, .inr (0, [.ref ba, .int bcc, .int bac, .int bfc, .int blc])), (ba, .inl (cI, 10, .inl bf)), (lg, .inl (cI, 12, .inl lgf)), (sh, .inr (2, [.ref sa, .int cnt, .int call])), (sa, .inl (cI, 12, .inl swf)), (vh, .inr (3, [.ref va])), (va, .inl (cI, 12, .inl fnf)), (qb, .inl (cI, 12, .inl fb)), (qk, .inl (cI, 12, .inl fk)), (qg, .inl (cI, 3, .inl fg))] : va_W) sz) (va_Qi P (fun (u : (Nat → Int32) × Int32 × Int32 × Int32 × Int32 × (Nat → Int32) × Int32 × (Nat → Int32) × (Nat → Int32) × (Nat → Int32) × (Nat → Int32)) t => ff_B D [(cI, .int)] (va_A ([(xh, .inr (4, [.ref ch, .ref bh, .ref lg, .int lgd, .ref sh, .ref vh])), (ch, .inr (0, [.ref ca, .int ccc, .int cac, .int cfc, .int clc])), (ca, .inl (cI, 10, .inl cf)), (bh, .inr (0, [.ref ba, .int bcc, .int bac, .int bfc, .int blc])), (ba, .inl (cI, 10, .inl bf)), (lg, .inl (cI, 12, .inl lgf)), (sh, .inr (2, [.ref sa, .int cnt, .int call])), (sa, .inl (cI, 12, .inl swf)), (vh, .inr (3, [.ref va])), (va, .inl (cI, 12, .inl fnf)), (qb, .inl (cI, 12, .inl fb)), (qk, .inl (cI, 12, .inl fk)), (qg, .inl (cI, 3, .inl fg))] : va_W) sz) [(xh, .inr (4, [.ref ch, .ref bh, .ref lg, .int (u.2.2.2.2.2.2.1), .ref sh, .ref vh])), (ch, .inr (0, [.ref ca, .int ccc, .int cac, .int cfc, .int clc])), (ca, .inl (cI, 10, .inl (u.1))), (bh, .inr (0, [.ref ba, .int (u.2.1), .int (u.2.2.1), .int (u.2.2.2.1), .int (u.2.2.2.2.1)])), (ba, .inl (cI, 10, .inl (u.2.2.2.2.2.1))), (lg, .inl (cI, 12, .inl lgf)), (sh, .inr (2, [.ref sa, .int cnt, .int call])), (sa, .inl (cI, 12, .inl swf)), (vh, .inr (3, [.ref va])), (va, .inl (cI, 12, .inl (u.2.2.2.2.2.2.2.1))), (qb, .inl (cI, 12, .inl (u.2.2.2.2.2.2.2.2.1))), (qk, .inl (cI, 12, .inl (u.2.2.2.2.2.2.2.2.2.1))), (qg, .inl (cI, 3, .inl (u.2.2.2.2.2.2.2.2.2.2)))] t) (va_A ([(xh, .inr (4, [.ref ch, .ref bh, .ref lg, .int lgd, .ref sh, .ref vh])), (ch, .inr (0, [.ref ca, .int ccc, .int cac, .int cfc, .int clc])), (ca, .inl (cI, 10, .inl cf)), (bh, .inr (0, [.ref ba, .int bcc, .int bac, .int bfc, .int blc])), (ba, .inl (cI, 10, .inl bf)), (lg, .inl (cI, 12, .inl lgf)), (sh, .inr (2, [.ref sa, .int cnt, .int call])), (sa, .inl (cI, 12, .inl swf)), (vh, .inr (3, [.ref va])), (va, .inl (cI, 12, .inl fnf)), (qb, .inl (cI, 12, .inl fb)), (qk, .inl (cI, 12, .inl fk)), (qg, .inl (cI, 3, .inl fg))] : va_W) sz)) 2 2 (va_A ([(xh, .inr (4, [.ref ch, .ref bh, .ref lg, .int lgd, .ref sh, .ref vh])), (ch, .inr (0, [.ref ca, .int ccc, .int cac, .int cfc, .int clc])), (ca, .inl (cI, 10, .inl cf)), (bh, .inr (0, [.ref ba, .int bcc, .int bac, .int bfc, .int blc])), (ba, .inl (cI, 10, .inl bf)), (lg, .inl (cI, 12, .inl lgf)), (sh, .inr (2, [.ref sa, .int cnt, .int call])), (sa, .inl (cI, 12, .inl swf)), (vh, .inr (3, [.ref va])), (va, .inl (cI, 12, .inl fnf)), (qb, .inl (cI, 12, .inl fb)), (qk, .inl (cI, 12, .inl fk)), (qg, .inl (cI, 3, .inl fg))] : va_W) sz) := by
  refine ff_metZ (Wf := (fun (u : (Nat → Int32) × Int32 × Int32 × Int32 × Int32 × (Nat → Int32) × Int32 × (Nat → Int32) × (Nat → Int32) × (Nat → Int32) × (Nat → Int32)) => ([(xh, .inr (4, [.ref ch, .ref bh, .ref lg, .int (u.2.2.2.2.2.2.1), .ref sh, .ref vh])), (ch, .inr (0, [.ref ca, .int ccc, .int cac, .int cfc, .int clc])), (ca, .inl (cI, 10, .inl (u.1))), (bh, .inr (0, [.ref ba, .int (u.2.1), .int (u.2.2.1), .int (u.2.2.2.1), .int (u.2.2.2.2.1)])), (ba, .inl (cI, 10, .inl (u.2.2.2.2.2.1))), (lg, .inl (cI, 12, .inl lgf)), (sh, .inr (2, [.ref sa, .int cnt, .int call])), (sa, .inl (cI, 12, .inl swf)), (vh, .inr (3, [.ref va])), (va, .inl (cI, 12, .inl (u.2.2.2.2.2.2.2.1))), (qb, .inl (cI, 12, .inl (u.2.2.2.2.2.2.2.2.1))), (qk, .inl (cI, 12, .inl (u.2.2.2.2.2.2.2.2.2.1))), (qg, .inl (cI, 3, .inl (u.2.2.2.2.2.2.2.2.2.2)))] : va_W))) (by decide +kernel) rfl (Nat.le_of_ble_eq_true rfl) ?_
  intro p e s m args below meth c A Q ls H hx hb hml hown hts hN hA hK hP hD hS hret hl
  have L120 : ∀ (N : Nat) (x5 : Int32) (x6 : Int32) (x7 : Int32) (x8 : Int32) (cf' : Nat → Int32) (bcc' : Int32) (bac' : Int32) (bfc' : Int32) (blc' : Int32) (bf' : Nat → Int32) (lgd' : Int32) (fnf' : Nat → Int32) (fb' : Nat → Int32) (fk' : Nat → Int32) (fg' : Nat → Int32) (H : Heap) (locs : List Loc) (ls : Array Slot), I120 x5 x6 x7 x8 cf' bcc' bac' bfc' blc' bf' lgd' fnf' fb' fk' fg' → mu120 x5 x6 x7 x8 cf' bcc' bac' bfc' blc' bf' lgd' fnf' fb' fk' fg' < N → va_P D vwCl [(xh, .inr (4, [.ref ch, .ref bh, .ref lg, .int lgd', .ref sh, .ref vh])), (ch, .inr (0, [.ref ca, .int ccc, .int cac, .int cfc, .int clc])), (ca, .inl (cI, 10, .inl cf')), (bh, .inr (0, [.ref ba, .int bcc', .int bac', .int bfc', .int blc'])), (ba, .inl (cI, 10, .inl bf')), (lg, .inl (cI, 12, .inl lgf)), (sh, .inr (2, [.ref sa, .int cnt, .int call])), (sa, .inl (cI, 12, .inl swf)), (vh, .inr (3, [.ref va])), (va, .inl (cI, 12, .inl fnf')), (qb, .inl (cI, 12, .inl fb')), (qk, .inl (cI, 12, .inl fk')), (qg, .inl (cI, 3, .inl fg'))] H → va_D A [(xh, .inr (4, [.ref ch, .ref bh, .ref lg, .int lgd', .ref sh, .ref vh])), (ch, .inr (0, [.ref ca, .int ccc, .int cac, .int cfc, .int clc])), (ca, .inl (cI, 10, .inl cf')), (bh, .inr (0, [.ref ba, .int bcc', .int bac', .int bfc', .int blc'])), (ba, .inl (cI, 10, .inl bf')), (lg, .inl (cI, 12, .inl lgf)), (sh, .inr (2, [.ref sa, .int cnt, .int call])), (sa, .inl (cI, 12, .inl swf)), (vh, .inr (3, [.ref va])), (va, .inl (cI, 12, .inl fnf')), (qb, .inl (cI, 12, .inl fb')), (qk, .inl (cI, 12, .inl fk')), (qg, .inl (cI, 3, .inl fg'))] → va_S A s.heap H locs → lv_has ls 9 [(0, .ref xh), (1, .int p1), (2, .ref qb), (3, .ref qk), (4, .ref qg), (5, .int x5), (6, .int x6), (7, .int x7), (8, .int x8)] → W p l e ({ frames := 39, cells := 2, slots := 2, locals := 1051 } : Room) s m args below meth c H locs 2 2 Q (F0 m 120 ls []) := by
    intro N
    induction N with
    | zero => intros; rename_i hz _ _ _ _; exact absurd hz (Nat.not_lt_zero _)
    | succ N ih =>
      intro x5 x6 x7 x8 cf' bcc' bac' bfc' blc' bf' lgd' fnf' fb' fk' fg' H locs ls hI hmu hP hD hS hl
      have h := hv120 x5 x6 x7 x8 cf' bcc' bac' bfc' blc' bf' lgd' fnf' fb' fk' fg' hI
      unfold vs_L_makes_120 at h
      refine lv_iload hx hb dL_makes_120 (lv_at hl 8 rfl) ?_
      refine lv_aload hx hb dL_makes_122 (lv_at hl 4 rfl) ?_
      refine lv_iconst (v := 0) hx hb dL_makes_124 (by decide) ?_
      refine ff_ialdK hx hb hK hP 12 0 rfl rfl (vp_in_nI (n := 0) (N := 3) (by decide) (by decide)) (k := 0) rfl dL_makes_125 ?_
      refine lv_aload hx hb dL_makes_126 (lv_at hl 4 rfl) ?_
      refine lv_iconst (v := 1) hx hb dL_makes_128 (by decide) ?_
      refine ff_ialdK hx hb hK hP 12 0 rfl rfl (vp_in_nI (n := 1) (N := 3) (by decide) (by decide)) (k := 1) rfl dL_makes_129 ?_
      refine lv_imul hx hb dL_makes_130 ?_
      refine lv_icmp_ge (tgt := 186) hx hb dL_makes_131 (by decide) (fun c_1 => ?_) (fun c_1 => ?_)
      · have h := h.1 c_1
        refine lv_iload hx hb dL_makes_186 (lv_at hl 7 rfl) ?_
        exact hret x7 (cf', bcc', bac', bfc', blc', bf', lgd', fnf', fb', fk', fg') _ _ _ _ _ _ h.1 h.2 (hP.sub [0, 1, 2, 3, 4, 5, 6, 7, 8, 9, 10, 11, 12] rfl) (hD.sub [0, 1, 2, 3, 4, 5, 6, 7, 8, 9, 10, 11, 12] (by decide) rfl) hS (Nat.le_of_ble_eq_true rfl) (Nat.le_of_ble_eq_true rfl) dL_makes_188
      · have h := h.2 c_1
        refine lv_iload hx hb dL_makes_134 (lv_at hl 7 rfl) ?_
        refine lv_if_eq (tgt := 186) hx hb dL_makes_136 (by decide) (fun c_2 => ?_) (fun c_2 => ?_)
        · have h := h.1 c_2
          refine lv_iload hx hb dL_makes_186 (lv_at hl 7 rfl) ?_
          exact hret x7 (cf', bcc', bac', bfc', blc', bf', lgd', fnf', fb', fk', fg') _ _ _ _ _ _ h.1 h.2 (hP.sub [0, 1, 2, 3, 4, 5, 6, 7, 8, 9, 10, 11, 12] rfl) (hD.sub [0, 1, 2, 3, 4, 5, 6, 7, 8, 9, 10, 11, 12] (by decide) rfl) hS (Nat.le_of_ble_eq_true rfl) (Nat.le_of_ble_eq_true rfl) dL_makes_188
        · have h := h.2 c_2
          refine lv_aload_n hx hb dL_makes_139 rfl (lv_at hl 0 rfl) ?_
          refine lv_iload hx hb dL_makes_140 (lv_at hl 8 rfl) ?_
          obtain ⟨p_3, h⟩ := h
          have hPc := hP.sub (ws' := [(xh, .inr (4, [.ref ch, .ref bh, .ref lg, .int lgd', .ref sh, .ref vh])), (ch, .inr (0, [.ref ca, .int ccc, .int cac, .int cfc, .int clc])), (ca, .inl (cI, 10, .inl cf')), (bh, .inr (0, [.ref ba, .int bcc', .int bac', .int bfc', .int blc'])), (ba, .inl (cI, 10, .inl bf')), (lg, .inl (cI, 12, .inl lgf)), (sh, .inr (2, [.ref sa, .int cnt, .int call])), (sa, .inl (cI, 12, .inl swf)), (vh, .inr (3, [.ref va])), (va, .inl (cI, 12, .inl fnf'))]) [0, 1, 2, 3, 4, 5, 6, 7, 8, 9] rfl
          have hDc := hD.sub (ws' := [(xh, .inr (4, [.ref ch, .ref bh, .ref lg, .int lgd', .ref sh, .ref vh])), (ch, .inr (0, [.ref ca, .int ccc, .int cac, .int cfc, .int clc])), (ca, .inl (cI, 10, .inl cf')), (bh, .inr (0, [.ref ba, .int bcc', .int bac', .int bfc', .int blc'])), (ba, .inl (cI, 10, .inl bf')), (lg, .inl (cI, 12, .inl lgf)), (sh, .inr (2, [.ref sa, .int cnt, .int call])), (sa, .inl (cI, 12, .inl swf)), (vh, .inr (3, [.ref va])), (va, .inl (cI, 12, .inl fnf'))]) [0, 1, 2, 3, 4, 5, 6, 7, 8, 9] (by decide) rfl
          refine ff_callI (va_runV (As := [.int x8]) (rest := []) ⟨hx, hb, hml, hown, hts⟩ (c_X4_atN l D cI xh ch ca bh ba lg sh sa vh va H.size lgd' ccc cac cfc clc cf' bcc' bac' bfc' blc' bf' lgf cnt call swf fnf' x8 p_3) (cwV 1 hts gL_makes_X4_at rfl rfl rfl (by decide +kernel) ⟨Nat.le_of_ble_eq_true rfl, Nat.le_of_ble_eq_true rfl⟩) (ff_preV (q := (RX4, TX4, 6)) (ci := 4) (q0 := 0) hPc hK hDc hN rfl rfl) rfl rfl hl.1 rfl (lv_room (Nat.le_of_ble_eq_true rfl)) dL_makes_142 ⟨Nat.le_of_ble_eq_true rfl, Nat.le_of_ble_eq_true rfl⟩) hP hD hS hA [0, 1, 2, 3, 4, 5, 6, 7, 8, 9] [10, 11, 12] (wr := [(qb, .inl (cI, 12, .inl fb')), (qk, .inl (cI, 12, .inl fk')), (qg, .inl (cI, 3, .inl fg'))]) rfl rfl (by decide) (by decide) (fun r u H locs hw hP hD hS => ?_)
          replace hw := hw.symm
          subst hw
          have hP : va_P D vwCl [(qb, .inl (cI, 12, .inl fb')), (qk, .inl (cI, 12, .inl fk')), (qg, .inl (cI, 3, .inl fg')), (xh, .inr (4, [.ref ch, .ref bh, .ref lg, .int lgd', .ref sh, .ref vh])), (ch, .inr (0, [.ref ca, .int ccc, .int cac, .int cfc, .int clc])), (ca, .inl (cI, 10, .inl cf')), (bh, .inr (0, [.ref ba, .int bcc', .int bac', .int bfc', .int blc'])), (ba, .inl (cI, 10, .inl bf')), (lg, .inl (cI, 12, .inl lgf)), (sh, .inr (2, [.ref sa, .int cnt, .int call])), (sa, .inl (cI, 12, .inl swf)), (vh, .inr (3, [.ref va])), (va, .inl (cI, 12, .inl fnf'))] H := hP
          have hD : va_D A [(qb, .inl (cI, 12, .inl fb')), (qk, .inl (cI, 12, .inl fk')), (qg, .inl (cI, 3, .inl fg')), (xh, .inr (4, [.ref ch, .ref bh, .ref lg, .int lgd', .ref sh, .ref vh])), (ch, .inr (0, [.ref ca, .int ccc, .int cac, .int cfc, .int clc])), (ca, .inl (cI, 10, .inl cf')), (bh, .inr (0, [.ref ba, .int bcc', .int bac', .int bfc', .int blc'])), (ba, .inl (cI, 10, .inl bf')), (lg, .inl (cI, 12, .inl lgf)), (sh, .inr (2, [.ref sa, .int cnt, .int call])), (sa, .inl (cI, 12, .inl swf)), (vh, .inr (3, [.ref va])), (va, .inl (cI, 12, .inl fnf'))] := hD
          refine lv_aload_n hx hb dL_makes_145 rfl (lv_at hl 2 rfl) ?_
          refine lv_iload hx hb dL_makes_146 (lv_at hl 8 rfl) ?_
          obtain ⟨i_4, h⟩ := h
          refine va_iald hx hb hK hP 0 0 rfl rfl i_4 dL_makes_148 ?_
          refine lv_icmp_ne (tgt := 177) hx hb dL_makes_149 (by decide) (fun c_5 => ?_) (fun c_5 => ?_)
          · have h := h.2 c_5
            refine lv_iconst (v := 0) hx hb dL_makes_177 (by decide) ?_
            refine lv_istore (lv' := [(7, .int 0), (0, .ref xh), (1, .int p1), (2, .ref qb), (3, .ref qk), (4, .ref qg), (5, .int x5), (6, .int x6), (8, .int x8)]) hx hb dL_makes_178 hl (by decide) rfl (fun ls hl => ?_)
            obtain ⟨y_6, ey_6⟩ : ∃ y : Int32, y = x8 + 1 := ⟨_, rfl⟩
            have h := h y_6 ey_6
            refine lv_iinc (v := y_6) (lv' := [(8, .int y_6), (7, .int 0), (0, .ref xh), (1, .int p1), (2, .ref qb), (3, .ref qk), (4, .ref qg), (5, .int x5), (6, .int x6)]) hx hb dL_makes_180 hl (k := 8) rfl (by rw [ey_6]; rfl) (by decide) rfl (fun ls hl => ?_)
            refine lv_goto (tgt := 120) hx hb dL_makes_183 (by decide) ?_
            exact ih _ _ _ _ _ _ _ _ _ _ _ _ _ _ _ _ _ _ h.1 (Nat.lt_of_lt_of_le h.2 (Nat.le_of_lt_succ hmu)) (hP.sub [3, 4, 5, 6, 7, 8, 9, 10, 11, 12, 0, 1, 2] rfl) (hD.sub [3, 4, 5, 6, 7, 8, 9, 10, 11, 12, 0, 1, 2] (by decide) rfl) hS (lv_sub hl [2, 3, 4, 5, 6, 7, 8, 1, 0] rfl)
          · have h := h.1 c_5
            refine lv_aload_n hx hb dL_makes_152 rfl (lv_at hl 0 rfl) ?_
            refine lv_iload hx hb dL_makes_153 (lv_at hl 8 rfl) ?_
            obtain ⟨p_7, h⟩ := h
            have hPc := hP.sub (ws' := [(xh, .inr (4, [.ref ch, .ref bh, .ref lg, .int lgd', .ref sh, .ref vh])), (ch, .inr (0, [.ref ca, .int ccc, .int cac, .int cfc, .int clc])), (ca, .inl (cI, 10, .inl cf')), (bh, .inr (0, [.ref ba, .int bcc', .int bac', .int bfc', .int blc'])), (ba, .inl (cI, 10, .inl bf')), (lg, .inl (cI, 12, .inl lgf)), (sh, .inr (2, [.ref sa, .int cnt, .int call])), (sa, .inl (cI, 12, .inl swf)), (vh, .inr (3, [.ref va])), (va, .inl (cI, 12, .inl fnf'))]) [3, 4, 5, 6, 7, 8, 9, 10, 11, 12] rfl
            have hDc := hD.sub (ws' := [(xh, .inr (4, [.ref ch, .ref bh, .ref lg, .int lgd', .ref sh, .ref vh])), (ch, .inr (0, [.ref ca, .int ccc, .int cac, .int cfc, .int clc])), (ca, .inl (cI, 10, .inl cf')), (bh, .inr (0, [.ref ba, .int bcc', .int bac', .int bfc', .int blc'])), (ba, .inl (cI, 10, .inl bf')), (lg, .inl (cI, 12, .inl lgf)), (sh, .inr (2, [.ref sa, .int cnt, .int call])), (sa, .inl (cI, 12, .inl swf)), (vh, .inr (3, [.ref va])), (va, .inl (cI, 12, .inl fnf'))]) [3, 4, 5, 6, 7, 8, 9, 10, 11, 12] (by decide) rfl
            refine ff_callI (va_runV (As := [.int x8]) (rest := []) ⟨hx, hb, hml, hown, hts⟩ (c_X4_isClueN l D cI xh ch ca bh ba lg sh sa vh va H.size lgd' ccc cac cfc clc cf' bcc' bac' bfc' blc' bf' lgf cnt call swf fnf' x8 p_7) (cwV 1 hts gL_makes_X4_isClue rfl rfl rfl (by decide +kernel) ⟨Nat.le_of_ble_eq_true rfl, Nat.le_of_ble_eq_true rfl⟩) (ff_preV (q := (RX4, TX4, 6)) (ci := 4) (q0 := 0) hPc hK hDc hN rfl rfl) rfl rfl hl.1 rfl (lv_room (Nat.le_of_ble_eq_true rfl)) dL_makes_155 ⟨Nat.le_of_ble_eq_true rfl, Nat.le_of_ble_eq_true rfl⟩) hP hD hS hA [3, 4, 5, 6, 7, 8, 9, 10, 11, 12] [0, 1, 2] (wr := [(qb, .inl (cI, 12, .inl fb')), (qk, .inl (cI, 12, .inl fk')), (qg, .inl (cI, 3, .inl fg'))]) rfl rfl (by decide) (by decide) (fun r u H locs hw hP hD hS => ?_)
            replace hw := hw.symm
            subst hw
            have hP : va_P D vwCl [(qb, .inl (cI, 12, .inl fb')), (qk, .inl (cI, 12, .inl fk')), (qg, .inl (cI, 3, .inl fg')), (xh, .inr (4, [.ref ch, .ref bh, .ref lg, .int lgd', .ref sh, .ref vh])), (ch, .inr (0, [.ref ca, .int ccc, .int cac, .int cfc, .int clc])), (ca, .inl (cI, 10, .inl cf')), (bh, .inr (0, [.ref ba, .int bcc', .int bac', .int bfc', .int blc'])), (ba, .inl (cI, 10, .inl bf')), (lg, .inl (cI, 12, .inl lgf)), (sh, .inr (2, [.ref sa, .int cnt, .int call])), (sa, .inl (cI, 12, .inl swf)), (vh, .inr (3, [.ref va])), (va, .inl (cI, 12, .inl fnf'))] H := hP
            have hD : va_D A [(qb, .inl (cI, 12, .inl fb')), (qk, .inl (cI, 12, .inl fk')), (qg, .inl (cI, 3, .inl fg')), (xh, .inr (4, [.ref ch, .ref bh, .ref lg, .int lgd', .ref sh, .ref vh])), (ch, .inr (0, [.ref ca, .int ccc, .int cac, .int cfc, .int clc])), (ca, .inl (cI, 10, .inl cf')), (bh, .inr (0, [.ref ba, .int bcc', .int bac', .int bfc', .int blc'])), (ba, .inl (cI, 10, .inl bf')), (lg, .inl (cI, 12, .inl lgf)), (sh, .inr (2, [.ref sa, .int cnt, .int call])), (sa, .inl (cI, 12, .inl swf)), (vh, .inr (3, [.ref va])), (va, .inl (cI, 12, .inl fnf'))] := hD
            refine lv_aload_n hx hb dL_makes_158 rfl (lv_at hl 2 rfl) ?_
            refine lv_iload hx hb dL_makes_159 (lv_at hl 8 rfl) ?_
            obtain ⟨i_8, h⟩ := h
            refine va_iald hx hb hK hP 0 0 rfl rfl i_8 dL_makes_161 ?_
            refine lv_if_le (tgt := 169) hx hb dL_makes_162 (by decide) (fun c_9 => ?_) (fun c_9 => ?_)
            · have h := h.1 c_9
              refine lv_iconst (v := 0) hx hb dL_makes_169 (by decide) ?_
              refine lv_icmp_ne (tgt := 177) hx hb dL_makes_170 (by decide) (fun c_10 => ?_) (fun c_10 => ?_)
              · have h := h.2 c_10
                refine lv_iconst (v := 0) hx hb dL_makes_177 (by decide) ?_
                refine lv_istore (lv' := [(7, .int 0), (0, .ref xh), (1, .int p1), (2, .ref qb), (3, .ref qk), (4, .ref qg), (5, .int x5), (6, .int x6), (8, .int x8)]) hx hb dL_makes_178 hl (by decide) rfl (fun ls hl => ?_)
                obtain ⟨y_11, ey_11⟩ : ∃ y : Int32, y = x8 + 1 := ⟨_, rfl⟩
                have h := h y_11 ey_11
                refine lv_iinc (v := y_11) (lv' := [(8, .int y_11), (7, .int 0), (0, .ref xh), (1, .int p1), (2, .ref qb), (3, .ref qk), (4, .ref qg), (5, .int x5), (6, .int x6)]) hx hb dL_makes_180 hl (k := 8) rfl (by rw [ey_11]; rfl) (by decide) rfl (fun ls hl => ?_)
                refine lv_goto (tgt := 120) hx hb dL_makes_183 (by decide) ?_
                exact ih _ _ _ _ _ _ _ _ _ _ _ _ _ _ _ _ _ _ h.1 (Nat.lt_of_lt_of_le h.2 (Nat.le_of_lt_succ hmu)) (hP.sub [3, 4, 5, 6, 7, 8, 9, 10, 11, 12, 0, 1, 2] rfl) (hD.sub [3, 4, 5, 6, 7, 8, 9, 10, 11, 12, 0, 1, 2] (by decide) rfl) hS (lv_sub hl [2, 3, 4, 5, 6, 7, 8, 1, 0] rfl)
              · have h := h.1 c_10
                refine lv_iconst (v := 1) hx hb dL_makes_173 (by decide) ?_
                refine lv_goto (tgt := 178) hx hb dL_makes_174 (by decide) ?_
                refine lv_istore (lv' := [(7, .int 1), (0, .ref xh), (1, .int p1), (2, .ref qb), (3, .ref qk), (4, .ref qg), (5, .int x5), (6, .int x6), (8, .int x8)]) hx hb dL_makes_178 hl (by decide) rfl (fun ls hl => ?_)
                obtain ⟨y_12, ey_12⟩ : ∃ y : Int32, y = x8 + 1 := ⟨_, rfl⟩
                have h := h y_12 ey_12
                refine lv_iinc (v := y_12) (lv' := [(8, .int y_12), (7, .int 1), (0, .ref xh), (1, .int p1), (2, .ref qb), (3, .ref qk), (4, .ref qg), (5, .int x5), (6, .int x6)]) hx hb dL_makes_180 hl (k := 8) rfl (by rw [ey_12]; rfl) (by decide) rfl (fun ls hl => ?_)
                refine lv_goto (tgt := 120) hx hb dL_makes_183 (by decide) ?_
                exact ih _ _ _ _ _ _ _ _ _ _ _ _ _ _ _ _ _ _ h.1 (Nat.lt_of_lt_of_le h.2 (Nat.le_of_lt_succ hmu)) (hP.sub [3, 4, 5, 6, 7, 8, 9, 10, 11, 12, 0, 1, 2] rfl) (hD.sub [3, 4, 5, 6, 7, 8, 9, 10, 11, 12, 0, 1, 2] (by decide) rfl) hS (lv_sub hl [2, 3, 4, 5, 6, 7, 8, 1, 0] rfl)
            · have h := h.2 c_9
              refine lv_iconst (v := 1) hx hb dL_makes_165 (by decide) ?_
              refine lv_goto (tgt := 170) hx hb dL_makes_166 (by decide) ?_
              refine lv_icmp_ne (tgt := 177) hx hb dL_makes_170 (by decide) (fun c_13 => ?_) (fun c_13 => ?_)
              · have h := h.2 c_13
                refine lv_iconst (v := 0) hx hb dL_makes_177 (by decide) ?_
                refine lv_istore (lv' := [(7, .int 0), (0, .ref xh), (1, .int p1), (2, .ref qb), (3, .ref qk), (4, .ref qg), (5, .int x5), (6, .int x6), (8, .int x8)]) hx hb dL_makes_178 hl (by decide) rfl (fun ls hl => ?_)
                obtain ⟨y_14, ey_14⟩ : ∃ y : Int32, y = x8 + 1 := ⟨_, rfl⟩
                have h := h y_14 ey_14
                refine lv_iinc (v := y_14) (lv' := [(8, .int y_14), (7, .int 0), (0, .ref xh), (1, .int p1), (2, .ref qb), (3, .ref qk), (4, .ref qg), (5, .int x5), (6, .int x6)]) hx hb dL_makes_180 hl (k := 8) rfl (by rw [ey_14]; rfl) (by decide) rfl (fun ls hl => ?_)
                refine lv_goto (tgt := 120) hx hb dL_makes_183 (by decide) ?_
                exact ih _ _ _ _ _ _ _ _ _ _ _ _ _ _ _ _ _ _ h.1 (Nat.lt_of_lt_of_le h.2 (Nat.le_of_lt_succ hmu)) (hP.sub [3, 4, 5, 6, 7, 8, 9, 10, 11, 12, 0, 1, 2] rfl) (hD.sub [3, 4, 5, 6, 7, 8, 9, 10, 11, 12, 0, 1, 2] (by decide) rfl) hS (lv_sub hl [2, 3, 4, 5, 6, 7, 8, 1, 0] rfl)
              · have h := h.1 c_13
                refine lv_iconst (v := 1) hx hb dL_makes_173 (by decide) ?_
                refine lv_goto (tgt := 178) hx hb dL_makes_174 (by decide) ?_
                refine lv_istore (lv' := [(7, .int 1), (0, .ref xh), (1, .int p1), (2, .ref qb), (3, .ref qk), (4, .ref qg), (5, .int x5), (6, .int x6), (8, .int x8)]) hx hb dL_makes_178 hl (by decide) rfl (fun ls hl => ?_)
                obtain ⟨y_15, ey_15⟩ : ∃ y : Int32, y = x8 + 1 := ⟨_, rfl⟩
                have h := h y_15 ey_15
                refine lv_iinc (v := y_15) (lv' := [(8, .int y_15), (7, .int 1), (0, .ref xh), (1, .int p1), (2, .ref qb), (3, .ref qk), (4, .ref qg), (5, .int x5), (6, .int x6)]) hx hb dL_makes_180 hl (k := 8) rfl (by rw [ey_15]; rfl) (by decide) rfl (fun ls hl => ?_)
                refine lv_goto (tgt := 120) hx hb dL_makes_183 (by decide) ?_
                exact ih _ _ _ _ _ _ _ _ _ _ _ _ _ _ _ _ _ _ h.1 (Nat.lt_of_lt_of_le h.2 (Nat.le_of_lt_succ hmu)) (hP.sub [3, 4, 5, 6, 7, 8, 9, 10, 11, 12, 0, 1, 2] rfl) (hD.sub [3, 4, 5, 6, 7, 8, 9, 10, 11, 12, 0, 1, 2] (by decide) rfl) hS (lv_sub hl [2, 3, 4, 5, 6, 7, 8, 1, 0] rfl)
  have L13 : ∀ (N : Nat) (x5 : Int32) (x6 : Int32) (x7 : Int32) (cf' : Nat → Int32) (bcc' : Int32) (bac' : Int32) (bfc' : Int32) (blc' : Int32) (bf' : Nat → Int32) (lgd' : Int32) (fnf' : Nat → Int32) (fb' : Nat → Int32) (fk' : Nat → Int32) (fg' : Nat → Int32) (H : Heap) (locs : List Loc) (ls : Array Slot), I13 x5 x6 x7 cf' bcc' bac' bfc' blc' bf' lgd' fnf' fb' fk' fg' → mu13 x5 x6 x7 cf' bcc' bac' bfc' blc' bf' lgd' fnf' fb' fk' fg' < N → va_P D vwCl [(xh, .inr (4, [.ref ch, .ref bh, .ref lg, .int lgd', .ref sh, .ref vh])), (ch, .inr (0, [.ref ca, .int ccc, .int cac, .int cfc, .int clc])), (ca, .inl (cI, 10, .inl cf')), (bh, .inr (0, [.ref ba, .int bcc', .int bac', .int bfc', .int blc'])), (ba, .inl (cI, 10, .inl bf')), (lg, .inl (cI, 12, .inl lgf)), (sh, .inr (2, [.ref sa, .int cnt, .int call])), (sa, .inl (cI, 12, .inl swf)), (vh, .inr (3, [.ref va])), (va, .inl (cI, 12, .inl fnf')), (qb, .inl (cI, 12, .inl fb')), (qk, .inl (cI, 12, .inl fk')), (qg, .inl (cI, 3, .inl fg'))] H → va_D A [(xh, .inr (4, [.ref ch, .ref bh, .ref lg, .int lgd', .ref sh, .ref vh])), (ch, .inr (0, [.ref ca, .int ccc, .int cac, .int cfc, .int clc])), (ca, .inl (cI, 10, .inl cf')), (bh, .inr (0, [.ref ba, .int bcc', .int bac', .int bfc', .int blc'])), (ba, .inl (cI, 10, .inl bf')), (lg, .inl (cI, 12, .inl lgf)), (sh, .inr (2, [.ref sa, .int cnt, .int call])), (sa, .inl (cI, 12, .inl swf)), (vh, .inr (3, [.ref va])), (va, .inl (cI, 12, .inl fnf')), (qb, .inl (cI, 12, .inl fb')), (qk, .inl (cI, 12, .inl fk')), (qg, .inl (cI, 3, .inl fg'))] → va_S A s.heap H locs → lv_has ls 9 [(0, .ref xh), (1, .int p1), (2, .ref qb), (3, .ref qk), (4, .ref qg), (5, .int x5), (6, .int x6), (7, .int x7)] → W p l e ({ frames := 39, cells := 2, slots := 2, locals := 1051 } : Room) s m args below meth c H locs 1 1 Q (F0 m 13 ls []) := by
    intro N
    induction N with
    | zero => intros; rename_i hz _ _ _ _; exact absurd hz (Nat.not_lt_zero _)
    | succ N ih =>
      intro x5 x6 x7 cf' bcc' bac' bfc' blc' bf' lgd' fnf' fb' fk' fg' H locs ls hI hmu hP hD hS hl
      have h := hv13 x5 x6 x7 cf' bcc' bac' bfc' blc' bf' lgd' fnf' fb' fk' fg' hI
      unfold vs_L_makes_13 at h
      refine lv_iload hx hb dL_makes_13 (lv_at hl 7 rfl) ?_
      refine lv_bipush (v := 12) hx hb dL_makes_15 (by decide) ?_
      refine lv_icmp_ge (tgt := 79) hx hb dL_makes_17 (by decide) (fun c_16 => ?_) (fun c_16 => ?_)
      · have h := h.1 c_16
        refine lv_aload hx hb dL_makes_79 (lv_at hl 4 rfl) ?_
        refine lv_iconst (v := 2) hx hb dL_makes_81 (by decide) ?_
        refine lv_iconst (v := 0) hx hb dL_makes_82 (by decide) ?_
        refine ff_iastK hx hb hK hP hD hS 12 0 rfl rfl (vp_in_nI (n := 2) (N := 3) (by decide) (by decide)) (k := 2) rfl dL_makes_83 (fun H locs hP hD hS => ?_)
        have hP : va_P D vwCl [(xh, .inr (4, [.ref ch, .ref bh, .ref lg, .int lgd', .ref sh, .ref vh])), (ch, .inr (0, [.ref ca, .int ccc, .int cac, .int cfc, .int clc])), (ca, .inl (cI, 10, .inl cf')), (bh, .inr (0, [.ref ba, .int bcc', .int bac', .int bfc', .int blc'])), (ba, .inl (cI, 10, .inl bf')), (lg, .inl (cI, 12, .inl lgf)), (sh, .inr (2, [.ref sa, .int cnt, .int call])), (sa, .inl (cI, 12, .inl swf)), (vh, .inr (3, [.ref va])), (va, .inl (cI, 12, .inl fnf')), (qb, .inl (cI, 12, .inl fb')), (qk, .inl (cI, 12, .inl fk')), (qg, .inl (cI, 3, .inl (upd fg' 2 0)))] H := hP
        have hD : va_D A [(xh, .inr (4, [.ref ch, .ref bh, .ref lg, .int lgd', .ref sh, .ref vh])), (ch, .inr (0, [.ref ca, .int ccc, .int cac, .int cfc, .int clc])), (ca, .inl (cI, 10, .inl cf')), (bh, .inr (0, [.ref ba, .int bcc', .int bac', .int bfc', .int blc'])), (ba, .inl (cI, 10, .inl bf')), (lg, .inl (cI, 12, .inl lgf)), (sh, .inr (2, [.ref sa, .int cnt, .int call])), (sa, .inl (cI, 12, .inl swf)), (vh, .inr (3, [.ref va])), (va, .inl (cI, 12, .inl fnf')), (qb, .inl (cI, 12, .inl fb')), (qk, .inl (cI, 12, .inl fk')), (qg, .inl (cI, 3, .inl (upd fg' 2 0)))] := hD
        refine lv_iload hx hb dL_makes_84 (lv_at hl 5 rfl) ?_
        refine lv_iload hx hb dL_makes_86 (lv_at hl 6 rfl) ?_
        refine lv_icmp_ne (tgt := 114) hx hb dL_makes_88 (by decide) (fun c_17 => ?_) (fun c_17 => ?_)
        · have h := h.2 c_17
          refine lv_iconst (v := 0) hx hb dL_makes_114 (by decide) ?_
          refine lv_istore (lv' := [(7, .int 0), (0, .ref xh), (1, .int p1), (2, .ref qb), (3, .ref qk), (4, .ref qg), (5, .int x5), (6, .int x6)]) hx hb dL_makes_115 hl (by decide) rfl (fun ls hl => ?_)
          refine lv_iconst (v := 0) hx hb dL_makes_117 (by decide) ?_
          refine lv_istore (lv' := [(8, .int 0), (7, .int 0), (0, .ref xh), (1, .int p1), (2, .ref qb), (3, .ref qk), (4, .ref qg), (5, .int x5), (6, .int x6)]) hx hb dL_makes_118 hl (by decide) rfl (fun ls hl => ?_)
          refine W.widen (k := 2) (n := 2) (Nat.le_of_ble_eq_true rfl) (Nat.le_of_ble_eq_true rfl) ?_
          exact L120 _ _ _ _ _ _ _ _ _ _ _ _ _ _ _ _ _ _ _ h (Nat.lt_succ_self _) (hP.sub [0, 1, 2, 3, 4, 5, 6, 7, 8, 9, 10, 11, 12] rfl) (hD.sub [0, 1, 2, 3, 4, 5, 6, 7, 8, 9, 10, 11, 12] (by decide) rfl) hS (lv_sub hl [2, 3, 4, 5, 6, 7, 8, 1, 0] rfl)
        · have h := h.1 c_17
          refine lv_aload_n hx hb dL_makes_91 rfl (lv_at hl 0 rfl) ?_
          refine lv_iconst (v := 5) hx hb dL_makes_92 (by decide) ?_
          obtain ⟨p_18, h⟩ := h
          have hPc := hP.sub (ws' := [(xh, .inr (4, [.ref ch, .ref bh, .ref lg, .int lgd', .ref sh, .ref vh])), (ch, .inr (0, [.ref ca, .int ccc, .int cac, .int cfc, .int clc])), (ca, .inl (cI, 10, .inl cf')), (bh, .inr (0, [.ref ba, .int bcc', .int bac', .int bfc', .int blc'])), (ba, .inl (cI, 10, .inl bf')), (lg, .inl (cI, 12, .inl lgf)), (sh, .inr (2, [.ref sa, .int cnt, .int call])), (sa, .inl (cI, 12, .inl swf)), (vh, .inr (3, [.ref va])), (va, .inl (cI, 12, .inl fnf'))]) [0, 1, 2, 3, 4, 5, 6, 7, 8, 9] rfl
          have hDc := hD.sub (ws' := [(xh, .inr (4, [.ref ch, .ref bh, .ref lg, .int lgd', .ref sh, .ref vh])), (ch, .inr (0, [.ref ca, .int ccc, .int cac, .int cfc, .int clc])), (ca, .inl (cI, 10, .inl cf')), (bh, .inr (0, [.ref ba, .int bcc', .int bac', .int bfc', .int blc'])), (ba, .inl (cI, 10, .inl bf')), (lg, .inl (cI, 12, .inl lgf)), (sh, .inr (2, [.ref sa, .int cnt, .int call])), (sa, .inl (cI, 12, .inl swf)), (vh, .inr (3, [.ref va])), (va, .inl (cI, 12, .inl fnf'))]) [0, 1, 2, 3, 4, 5, 6, 7, 8, 9] (by decide) rfl
          refine ff_callI (va_runV (As := [.int 5]) (rest := []) ⟨hx, hb, hml, hown, hts⟩ (c_X4_solutionsN l D cI xh ch ca bh ba lg sh sa vh va H.size lgd' ccc cac cfc clc cf' bcc' bac' bfc' blc' bf' lgf cnt call swf fnf' 5 p_18) (cwV 1 hts gL_makes_X4_solutions rfl rfl rfl (by decide +kernel) ⟨Nat.le_of_ble_eq_true rfl, Nat.le_of_ble_eq_true rfl⟩) (ff_preV (q := (RX4, TX4, 6)) (ci := 4) (q0 := 0) hPc hK hDc hN rfl rfl) rfl rfl hl.1 rfl (lv_room (Nat.le_of_ble_eq_true rfl)) dL_makes_93 ⟨Nat.le_of_ble_eq_true rfl, Nat.le_of_ble_eq_true rfl⟩) hP hD hS hA [0, 1, 2, 3, 4, 5, 6, 7, 8, 9] [10, 11, 12] (wr := [(qb, .inl (cI, 12, .inl fb')), (qk, .inl (cI, 12, .inl fk')), (qg, .inl (cI, 3, .inl (upd fg' 2 0)))]) rfl rfl (by decide) (by decide) (fun r u H locs hw hP hD hS => ?_)
          obtain ⟨e0_w, e1_w⟩ := hw
          replace e0_w := e0_w.symm
          subst e0_w
          replace e1_w := e1_w.symm
          subst e1_w
          have hP : va_P D vwCl [(qb, .inl (cI, 12, .inl fb')), (qk, .inl (cI, 12, .inl fk')), (qg, .inl (cI, 3, .inl (upd fg' 2 0))), (xh, .inr (4, [.ref ch, .ref bh, .ref lg, .int lgd', .ref sh, .ref vh])), (ch, .inr (0, [.ref ca, .int ccc, .int cac, .int cfc, .int clc])), (ca, .inl (cI, 10, .inl cf')), (bh, .inr (0, [.ref ba, .int bcc', .int bac', .int bfc', .int blc'])), (ba, .inl (cI, 10, .inl bf')), (lg, .inl (cI, 12, .inl lgf)), (sh, .inr (2, [.ref sa, .int cnt, .int call])), (sa, .inl (cI, 12, .inl swf)), (vh, .inr (3, [.ref va])), (va, .inl (cI, 12, .inl fnf'))] H := hP
          have hD : va_D A [(qb, .inl (cI, 12, .inl fb')), (qk, .inl (cI, 12, .inl fk')), (qg, .inl (cI, 3, .inl (upd fg' 2 0))), (xh, .inr (4, [.ref ch, .ref bh, .ref lg, .int lgd', .ref sh, .ref vh])), (ch, .inr (0, [.ref ca, .int ccc, .int cac, .int cfc, .int clc])), (ca, .inl (cI, 10, .inl cf')), (bh, .inr (0, [.ref ba, .int bcc', .int bac', .int bfc', .int blc'])), (ba, .inl (cI, 10, .inl bf')), (lg, .inl (cI, 12, .inl lgf)), (sh, .inr (2, [.ref sa, .int cnt, .int call])), (sa, .inl (cI, 12, .inl swf)), (vh, .inr (3, [.ref va])), (va, .inl (cI, 12, .inl fnf'))] := hD
          refine lv_iconst (v := 1) hx hb dL_makes_96 (by decide) ?_
          refine lv_icmp_ne (tgt := 114) hx hb dL_makes_97 (by decide) (fun c_19 => ?_) (fun c_19 => ?_)
          · have h := h.2 c_19
            refine lv_iconst (v := 0) hx hb dL_makes_114 (by decide) ?_
            refine lv_istore (lv' := [(7, .int 0), (0, .ref xh), (1, .int p1), (2, .ref qb), (3, .ref qk), (4, .ref qg), (5, .int x5), (6, .int x6)]) hx hb dL_makes_115 hl (by decide) rfl (fun ls hl => ?_)
            refine lv_iconst (v := 0) hx hb dL_makes_117 (by decide) ?_
            refine lv_istore (lv' := [(8, .int 0), (7, .int 0), (0, .ref xh), (1, .int p1), (2, .ref qb), (3, .ref qk), (4, .ref qg), (5, .int x5), (6, .int x6)]) hx hb dL_makes_118 hl (by decide) rfl (fun ls hl => ?_)
            refine W.widen (k := 2) (n := 2) (Nat.le_of_ble_eq_true rfl) (Nat.le_of_ble_eq_true rfl) ?_
            exact L120 _ _ _ _ _ _ _ _ _ _ _ _ _ _ _ _ _ _ _ h (Nat.lt_succ_self _) (hP.sub [3, 4, 5, 6, 7, 8, 9, 10, 11, 12, 0, 1, 2] rfl) (hD.sub [3, 4, 5, 6, 7, 8, 9, 10, 11, 12, 0, 1, 2] (by decide) rfl) hS (lv_sub hl [2, 3, 4, 5, 6, 7, 8, 1, 0] rfl)
          · have h := h.1 c_19
            refine lv_aload_n hx hb dL_makes_100 rfl (lv_at hl 0 rfl) ?_
            refine lv_iload_n hx hb dL_makes_101 rfl (lv_at hl 1 rfl) ?_
            obtain ⟨p_20, h⟩ := h
            have hPc := hP.sub (ws' := [(xh, .inr (4, [.ref ch, .ref bh, .ref lg, .int lgd', .ref sh, .ref vh])), (ch, .inr (0, [.ref ca, .int ccc, .int cac, .int cfc, .int clc])), (ca, .inl (cI, 10, .inl cf')), (bh, .inr (0, [.ref ba, .int bcc', .int bac', .int bfc', .int blc'])), (ba, .inl (cI, 10, .inl bf')), (lg, .inl (cI, 12, .inl lgf)), (sh, .inr (2, [.ref sa, .int cnt, .int call])), (sa, .inl (cI, 12, .inl swf)), (vh, .inr (3, [.ref va])), (va, .inl (cI, 12, .inl fnf'))]) [3, 4, 5, 6, 7, 8, 9, 10, 11, 12] rfl
            have hDc := hD.sub (ws' := [(xh, .inr (4, [.ref ch, .ref bh, .ref lg, .int lgd', .ref sh, .ref vh])), (ch, .inr (0, [.ref ca, .int ccc, .int cac, .int cfc, .int clc])), (ca, .inl (cI, 10, .inl cf')), (bh, .inr (0, [.ref ba, .int bcc', .int bac', .int bfc', .int blc'])), (ba, .inl (cI, 10, .inl bf')), (lg, .inl (cI, 12, .inl lgf)), (sh, .inr (2, [.ref sa, .int cnt, .int call])), (sa, .inl (cI, 12, .inl swf)), (vh, .inr (3, [.ref va])), (va, .inl (cI, 12, .inl fnf'))]) [3, 4, 5, 6, 7, 8, 9, 10, 11, 12] (by decide) rfl
            refine ff_callI (va_runV (As := [.int p1]) (rest := []) ⟨hx, hb, hml, hown, hts⟩ (c_X4_makeN l D cI xh ch ca bh ba lg sh sa vh va H.size lgd' ccc cac cfc clc cf' bcc' bac' bfc' blc' bf' lgf cnt call swf fnf' p1 p_20) (cwV 1 hts gL_makes_X4_make rfl rfl rfl (by decide +kernel) ⟨Nat.le_of_ble_eq_true rfl, Nat.le_of_ble_eq_true rfl⟩) (ff_preV (q := (RX4, TX4, 6)) (ci := 4) (q0 := 0) hPc hK hDc hN rfl rfl) rfl rfl hl.1 rfl (lv_room (Nat.le_of_ble_eq_true rfl)) dL_makes_102 ⟨Nat.le_of_ble_eq_true rfl, Nat.le_of_ble_eq_true rfl⟩) hP hD hS hA [3, 4, 5, 6, 7, 8, 9, 10, 11, 12] [0, 1, 2] (wr := [(qb, .inl (cI, 12, .inl fb')), (qk, .inl (cI, 12, .inl fk')), (qg, .inl (cI, 3, .inl (upd fg' 2 0)))]) rfl rfl (by decide) (by decide) (fun r u H locs hw hP hD hS => ?_)
            obtain ⟨e0_w, e1_w⟩ := hw
            replace e0_w := e0_w.symm
            subst e0_w
            replace e1_w := e1_w.symm
            subst e1_w
            have hP : va_P D vwCl [(qb, .inl (cI, 12, .inl fb')), (qk, .inl (cI, 12, .inl fk')), (qg, .inl (cI, 3, .inl (upd fg' 2 0))), (xh, .inr (4, [.ref ch, .ref bh, .ref lg, .int 0, .ref sh, .ref vh])), (ch, .inr (0, [.ref ca, .int ccc, .int cac, .int cfc, .int clc])), (ca, .inl (cI, 10, .inl (zmkF ccc cac cfc clc cf' fnf' p1 (zN cac)))), (bh, .inr (0, [.ref ba, .int ccc, .int cac, .int cfc, .int clc])), (ba, .inl (cI, 10, .inl (zcp bf' (zmkF ccc cac cfc clc cf' fnf' p1 (zN cac))))), (lg, .inl (cI, 12, .inl lgf)), (sh, .inr (2, [.ref sa, .int cnt, .int call])), (sa, .inl (cI, 12, .inl swf)), (vh, .inr (3, [.ref va])), (va, .inl (cI, 12, .inl (zsbn cac fnf' (p1 : Int32).toInt64)))] H := hP
            have hD : va_D A [(qb, .inl (cI, 12, .inl fb')), (qk, .inl (cI, 12, .inl fk')), (qg, .inl (cI, 3, .inl (upd fg' 2 0))), (xh, .inr (4, [.ref ch, .ref bh, .ref lg, .int 0, .ref sh, .ref vh])), (ch, .inr (0, [.ref ca, .int ccc, .int cac, .int cfc, .int clc])), (ca, .inl (cI, 10, .inl (zmkF ccc cac cfc clc cf' fnf' p1 (zN cac)))), (bh, .inr (0, [.ref ba, .int ccc, .int cac, .int cfc, .int clc])), (ba, .inl (cI, 10, .inl (zcp bf' (zmkF ccc cac cfc clc cf' fnf' p1 (zN cac))))), (lg, .inl (cI, 12, .inl lgf)), (sh, .inr (2, [.ref sa, .int cnt, .int call])), (sa, .inl (cI, 12, .inl swf)), (vh, .inr (3, [.ref va])), (va, .inl (cI, 12, .inl (zsbn cac fnf' (p1 : Int32).toInt64)))] := hD
            refine lv_iload hx hb dL_makes_105 (lv_at hl 5 rfl) ?_
            refine lv_icmp_ne (tgt := 114) hx hb dL_makes_107 (by decide) (fun c_21 => ?_) (fun c_21 => ?_)
            · have h := h.2 c_21
              refine lv_iconst (v := 0) hx hb dL_makes_114 (by decide) ?_
              refine lv_istore (lv' := [(7, .int 0), (0, .ref xh), (1, .int p1), (2, .ref qb), (3, .ref qk), (4, .ref qg), (5, .int x5), (6, .int x6)]) hx hb dL_makes_115 hl (by decide) rfl (fun ls hl => ?_)
              refine lv_iconst (v := 0) hx hb dL_makes_117 (by decide) ?_
              refine lv_istore (lv' := [(8, .int 0), (7, .int 0), (0, .ref xh), (1, .int p1), (2, .ref qb), (3, .ref qk), (4, .ref qg), (5, .int x5), (6, .int x6)]) hx hb dL_makes_118 hl (by decide) rfl (fun ls hl => ?_)
              exact L120 _ _ _ _ _ _ _ _ _ _ _ _ _ _ _ _ _ _ _ h (Nat.lt_succ_self _) (hP.sub [3, 4, 5, 6, 7, 8, 9, 10, 11, 12, 0, 1, 2] rfl) (hD.sub [3, 4, 5, 6, 7, 8, 9, 10, 11, 12, 0, 1, 2] (by decide) rfl) hS (lv_sub hl [2, 3, 4, 5, 6, 7, 8, 1, 0] rfl)
            · have h := h.1 c_21
              refine lv_iconst (v := 1) hx hb dL_makes_110 (by decide) ?_
              refine lv_goto (tgt := 115) hx hb dL_makes_111 (by decide) ?_
              refine lv_istore (lv' := [(7, .int 1), (0, .ref xh), (1, .int p1), (2, .ref qb), (3, .ref qk), (4, .ref qg), (5, .int x5), (6, .int x6)]) hx hb dL_makes_115 hl (by decide) rfl (fun ls hl => ?_)
              refine lv_iconst (v := 0) hx hb dL_makes_117 (by decide) ?_
              refine lv_istore (lv' := [(8, .int 0), (7, .int 1), (0, .ref xh), (1, .int p1), (2, .ref qb), (3, .ref qk), (4, .ref qg), (5, .int x5), (6, .int x6)]) hx hb dL_makes_118 hl (by decide) rfl (fun ls hl => ?_)
              exact L120 _ _ _ _ _ _ _ _ _ _ _ _ _ _ _ _ _ _ _ h (Nat.lt_succ_self _) (hP.sub [3, 4, 5, 6, 7, 8, 9, 10, 11, 12, 0, 1, 2] rfl) (hD.sub [3, 4, 5, 6, 7, 8, 9, 10, 11, 12, 0, 1, 2] (by decide) rfl) hS (lv_sub hl [2, 3, 4, 5, 6, 7, 8, 1, 0] rfl)
      · have h := h.2 c_16
        refine lv_aload_n hx hb dL_makes_20 rfl (lv_at hl 2 rfl) ?_
        refine lv_iload hx hb dL_makes_21 (lv_at hl 7 rfl) ?_
        refine lv_iload hx hb dL_makes_23 (lv_at hl 7 rfl) ?_
        refine lv_aload hx hb dL_makes_25 (lv_at hl 4 rfl) ?_
        refine lv_iconst (v := 0) hx hb dL_makes_27 (by decide) ?_
        refine ff_ialdK hx hb hK hP 12 0 rfl rfl (vp_in_nI (n := 0) (N := 3) (by decide) (by decide)) (k := 0) rfl dL_makes_28 ?_
        refine lv_aload hx hb dL_makes_29 (lv_at hl 4 rfl) ?_
        refine lv_iconst (v := 1) hx hb dL_makes_31 (by decide) ?_
        refine ff_ialdK hx hb hK hP 12 0 rfl rfl (vp_in_nI (n := 1) (N := 3) (by decide) (by decide)) (k := 1) rfl dL_makes_32 ?_
        refine lv_imul hx hb dL_makes_33 ?_
        refine lv_icmp_ge (tgt := 46) hx hb dL_makes_34 (by decide) (fun c_22 => ?_) (fun c_22 => ?_)
        · have h := h.1 c_22
          refine lv_iconst (v := 0) hx hb dL_makes_46 (by decide) ?_
          obtain ⟨i_23, h⟩ := h
          refine va_iast hx hb hK hP hD hS 10 0 rfl rfl i_23 dL_makes_47 (fun H locs hP hD hS => ?_)
          have hP : va_P D vwCl [(xh, .inr (4, [.ref ch, .ref bh, .ref lg, .int lgd', .ref sh, .ref vh])), (ch, .inr (0, [.ref ca, .int ccc, .int cac, .int cfc, .int clc])), (ca, .inl (cI, 10, .inl cf')), (bh, .inr (0, [.ref ba, .int bcc', .int bac', .int bfc', .int blc'])), (ba, .inl (cI, 10, .inl bf')), (lg, .inl (cI, 12, .inl lgf)), (sh, .inr (2, [.ref sa, .int cnt, .int call])), (sa, .inl (cI, 12, .inl swf)), (vh, .inr (3, [.ref va])), (va, .inl (cI, 12, .inl fnf')), (qb, .inl (cI, 12, .inl (upd fb' x7.toNatClampNeg 0))), (qk, .inl (cI, 12, .inl fk')), (qg, .inl (cI, 3, .inl fg'))] H := hP
          have hD : va_D A [(xh, .inr (4, [.ref ch, .ref bh, .ref lg, .int lgd', .ref sh, .ref vh])), (ch, .inr (0, [.ref ca, .int ccc, .int cac, .int cfc, .int clc])), (ca, .inl (cI, 10, .inl cf')), (bh, .inr (0, [.ref ba, .int bcc', .int bac', .int bfc', .int blc'])), (ba, .inl (cI, 10, .inl bf')), (lg, .inl (cI, 12, .inl lgf)), (sh, .inr (2, [.ref sa, .int cnt, .int call])), (sa, .inl (cI, 12, .inl swf)), (vh, .inr (3, [.ref va])), (va, .inl (cI, 12, .inl fnf')), (qb, .inl (cI, 12, .inl (upd fb' x7.toNatClampNeg 0))), (qk, .inl (cI, 12, .inl fk')), (qg, .inl (cI, 3, .inl fg'))] := hD
          refine lv_aload_n hx hb dL_makes_48 rfl (lv_at hl 3 rfl) ?_
          refine lv_iload hx hb dL_makes_49 (lv_at hl 7 rfl) ?_
          refine lv_aload_n hx hb dL_makes_51 rfl (lv_at hl 2 rfl) ?_
          refine lv_iload hx hb dL_makes_52 (lv_at hl 7 rfl) ?_
          obtain ⟨i_24, h⟩ := h
          refine va_iald hx hb hK hP 10 0 rfl rfl i_24 dL_makes_54 ?_
          refine lv_if_le (tgt := 62) hx hb dL_makes_55 (by decide) (fun c_25 => ?_) (fun c_25 => ?_)
          · have h := h.1 c_25
            refine lv_iconst (v := 0) hx hb dL_makes_62 (by decide) ?_
            obtain ⟨i_26, h⟩ := h
            refine va_iast hx hb hK hP hD hS 11 0 rfl rfl i_26 dL_makes_63 (fun H locs hP hD hS => ?_)
            have hP : va_P D vwCl [(xh, .inr (4, [.ref ch, .ref bh, .ref lg, .int lgd', .ref sh, .ref vh])), (ch, .inr (0, [.ref ca, .int ccc, .int cac, .int cfc, .int clc])), (ca, .inl (cI, 10, .inl cf')), (bh, .inr (0, [.ref ba, .int bcc', .int bac', .int bfc', .int blc'])), (ba, .inl (cI, 10, .inl bf')), (lg, .inl (cI, 12, .inl lgf)), (sh, .inr (2, [.ref sa, .int cnt, .int call])), (sa, .inl (cI, 12, .inl swf)), (vh, .inr (3, [.ref va])), (va, .inl (cI, 12, .inl fnf')), (qb, .inl (cI, 12, .inl (upd fb' x7.toNatClampNeg 0))), (qk, .inl (cI, 12, .inl (upd fk' x7.toNatClampNeg 0))), (qg, .inl (cI, 3, .inl fg'))] H := hP
            have hD : va_D A [(xh, .inr (4, [.ref ch, .ref bh, .ref lg, .int lgd', .ref sh, .ref vh])), (ch, .inr (0, [.ref ca, .int ccc, .int cac, .int cfc, .int clc])), (ca, .inl (cI, 10, .inl cf')), (bh, .inr (0, [.ref ba, .int bcc', .int bac', .int bfc', .int blc'])), (ba, .inl (cI, 10, .inl bf')), (lg, .inl (cI, 12, .inl lgf)), (sh, .inr (2, [.ref sa, .int cnt, .int call])), (sa, .inl (cI, 12, .inl swf)), (vh, .inr (3, [.ref va])), (va, .inl (cI, 12, .inl fnf')), (qb, .inl (cI, 12, .inl (upd fb' x7.toNatClampNeg 0))), (qk, .inl (cI, 12, .inl (upd fk' x7.toNatClampNeg 0))), (qg, .inl (cI, 3, .inl fg'))] := hD
            refine lv_iload hx hb dL_makes_64 (lv_at hl 6 rfl) ?_
            refine lv_aload_n hx hb dL_makes_66 rfl (lv_at hl 3 rfl) ?_
            refine lv_iload hx hb dL_makes_67 (lv_at hl 7 rfl) ?_
            obtain ⟨i_27, h⟩ := h
            refine va_iald hx hb hK hP 11 0 rfl rfl i_27 dL_makes_69 ?_
            refine lv_iadd hx hb dL_makes_70 ?_
            refine lv_topi (fun y_28 ey_28 => ?_)
            have h := h y_28 ey_28
            refine lv_istore (lv' := [(6, .int y_28), (0, .ref xh), (1, .int p1), (2, .ref qb), (3, .ref qk), (4, .ref qg), (5, .int x5), (7, .int x7)]) hx hb dL_makes_71 hl (by decide) rfl (fun ls hl => ?_)
            obtain ⟨y_29, ey_29⟩ : ∃ y : Int32, y = x7 + 1 := ⟨_, rfl⟩
            have h := h y_29 ey_29
            refine lv_iinc (v := y_29) (lv' := [(7, .int y_29), (6, .int y_28), (0, .ref xh), (1, .int p1), (2, .ref qb), (3, .ref qk), (4, .ref qg), (5, .int x5)]) hx hb dL_makes_73 hl (k := 7) rfl (by rw [ey_29]; rfl) (by decide) rfl (fun ls hl => ?_)
            refine lv_goto (tgt := 13) hx hb dL_makes_76 (by decide) ?_
            exact ih _ _ _ _ _ _ _ _ _ _ _ _ _ _ _ _ _ h.1 (Nat.lt_of_lt_of_le h.2 (Nat.le_of_lt_succ hmu)) (hP.sub [0, 1, 2, 3, 4, 5, 6, 7, 8, 9, 10, 11, 12] rfl) (hD.sub [0, 1, 2, 3, 4, 5, 6, 7, 8, 9, 10, 11, 12] (by decide) rfl) hS (lv_sub hl [2, 3, 4, 5, 6, 7, 1, 0] rfl)
          · have h := h.2 c_25
            refine lv_iconst (v := 1) hx hb dL_makes_58 (by decide) ?_
            refine lv_goto (tgt := 63) hx hb dL_makes_59 (by decide) ?_
            obtain ⟨i_30, h⟩ := h
            refine va_iast hx hb hK hP hD hS 11 0 rfl rfl i_30 dL_makes_63 (fun H locs hP hD hS => ?_)
            have hP : va_P D vwCl [(xh, .inr (4, [.ref ch, .ref bh, .ref lg, .int lgd', .ref sh, .ref vh])), (ch, .inr (0, [.ref ca, .int ccc, .int cac, .int cfc, .int clc])), (ca, .inl (cI, 10, .inl cf')), (bh, .inr (0, [.ref ba, .int bcc', .int bac', .int bfc', .int blc'])), (ba, .inl (cI, 10, .inl bf')), (lg, .inl (cI, 12, .inl lgf)), (sh, .inr (2, [.ref sa, .int cnt, .int call])), (sa, .inl (cI, 12, .inl swf)), (vh, .inr (3, [.ref va])), (va, .inl (cI, 12, .inl fnf')), (qb, .inl (cI, 12, .inl (upd fb' x7.toNatClampNeg 0))), (qk, .inl (cI, 12, .inl (upd fk' x7.toNatClampNeg 1))), (qg, .inl (cI, 3, .inl fg'))] H := hP
            have hD : va_D A [(xh, .inr (4, [.ref ch, .ref bh, .ref lg, .int lgd', .ref sh, .ref vh])), (ch, .inr (0, [.ref ca, .int ccc, .int cac, .int cfc, .int clc])), (ca, .inl (cI, 10, .inl cf')), (bh, .inr (0, [.ref ba, .int bcc', .int bac', .int bfc', .int blc'])), (ba, .inl (cI, 10, .inl bf')), (lg, .inl (cI, 12, .inl lgf)), (sh, .inr (2, [.ref sa, .int cnt, .int call])), (sa, .inl (cI, 12, .inl swf)), (vh, .inr (3, [.ref va])), (va, .inl (cI, 12, .inl fnf')), (qb, .inl (cI, 12, .inl (upd fb' x7.toNatClampNeg 0))), (qk, .inl (cI, 12, .inl (upd fk' x7.toNatClampNeg 1))), (qg, .inl (cI, 3, .inl fg'))] := hD
            refine lv_iload hx hb dL_makes_64 (lv_at hl 6 rfl) ?_
            refine lv_aload_n hx hb dL_makes_66 rfl (lv_at hl 3 rfl) ?_
            refine lv_iload hx hb dL_makes_67 (lv_at hl 7 rfl) ?_
            obtain ⟨i_31, h⟩ := h
            refine va_iald hx hb hK hP 11 0 rfl rfl i_31 dL_makes_69 ?_
            refine lv_iadd hx hb dL_makes_70 ?_
            refine lv_topi (fun y_32 ey_32 => ?_)
            have h := h y_32 ey_32
            refine lv_istore (lv' := [(6, .int y_32), (0, .ref xh), (1, .int p1), (2, .ref qb), (3, .ref qk), (4, .ref qg), (5, .int x5), (7, .int x7)]) hx hb dL_makes_71 hl (by decide) rfl (fun ls hl => ?_)
            obtain ⟨y_33, ey_33⟩ : ∃ y : Int32, y = x7 + 1 := ⟨_, rfl⟩
            have h := h y_33 ey_33
            refine lv_iinc (v := y_33) (lv' := [(7, .int y_33), (6, .int y_32), (0, .ref xh), (1, .int p1), (2, .ref qb), (3, .ref qk), (4, .ref qg), (5, .int x5)]) hx hb dL_makes_73 hl (k := 7) rfl (by rw [ey_33]; rfl) (by decide) rfl (fun ls hl => ?_)
            refine lv_goto (tgt := 13) hx hb dL_makes_76 (by decide) ?_
            exact ih _ _ _ _ _ _ _ _ _ _ _ _ _ _ _ _ _ h.1 (Nat.lt_of_lt_of_le h.2 (Nat.le_of_lt_succ hmu)) (hP.sub [0, 1, 2, 3, 4, 5, 6, 7, 8, 9, 10, 11, 12] rfl) (hD.sub [0, 1, 2, 3, 4, 5, 6, 7, 8, 9, 10, 11, 12] (by decide) rfl) hS (lv_sub hl [2, 3, 4, 5, 6, 7, 1, 0] rfl)
        · have h := h.2 c_22
          refine lv_aload_n hx hb dL_makes_37 rfl (lv_at hl 0 rfl) ?_
          refine lv_iload hx hb dL_makes_38 (lv_at hl 7 rfl) ?_
          obtain ⟨p_34, h⟩ := h
          have hPc := hP.sub (ws' := [(xh, .inr (4, [.ref ch, .ref bh, .ref lg, .int lgd', .ref sh, .ref vh])), (ch, .inr (0, [.ref ca, .int ccc, .int cac, .int cfc, .int clc])), (ca, .inl (cI, 10, .inl cf')), (bh, .inr (0, [.ref ba, .int bcc', .int bac', .int bfc', .int blc'])), (ba, .inl (cI, 10, .inl bf')), (lg, .inl (cI, 12, .inl lgf)), (sh, .inr (2, [.ref sa, .int cnt, .int call])), (sa, .inl (cI, 12, .inl swf)), (vh, .inr (3, [.ref va])), (va, .inl (cI, 12, .inl fnf'))]) [0, 1, 2, 3, 4, 5, 6, 7, 8, 9] rfl
          have hDc := hD.sub (ws' := [(xh, .inr (4, [.ref ch, .ref bh, .ref lg, .int lgd', .ref sh, .ref vh])), (ch, .inr (0, [.ref ca, .int ccc, .int cac, .int cfc, .int clc])), (ca, .inl (cI, 10, .inl cf')), (bh, .inr (0, [.ref ba, .int bcc', .int bac', .int bfc', .int blc'])), (ba, .inl (cI, 10, .inl bf')), (lg, .inl (cI, 12, .inl lgf)), (sh, .inr (2, [.ref sa, .int cnt, .int call])), (sa, .inl (cI, 12, .inl swf)), (vh, .inr (3, [.ref va])), (va, .inl (cI, 12, .inl fnf'))]) [0, 1, 2, 3, 4, 5, 6, 7, 8, 9] (by decide) rfl
          refine ff_callI (va_runV (As := [.int x7]) (rest := [.int x7, .ref qb]) ⟨hx, hb, hml, hown, hts⟩ (c_X4_atN l D cI xh ch ca bh ba lg sh sa vh va H.size lgd' ccc cac cfc clc cf' bcc' bac' bfc' blc' bf' lgf cnt call swf fnf' x7 p_34) (cwV 1 hts gL_makes_X4_at rfl rfl rfl (by decide +kernel) ⟨Nat.le_of_ble_eq_true rfl, Nat.le_of_ble_eq_true rfl⟩) (ff_preV (q := (RX4, TX4, 6)) (ci := 4) (q0 := 0) hPc hK hDc hN rfl rfl) rfl rfl hl.1 rfl (lv_room (Nat.le_of_ble_eq_true rfl)) dL_makes_40 ⟨Nat.le_of_ble_eq_true rfl, Nat.le_of_ble_eq_true rfl⟩) hP hD hS hA [0, 1, 2, 3, 4, 5, 6, 7, 8, 9] [10, 11, 12] (wr := [(qb, .inl (cI, 12, .inl fb')), (qk, .inl (cI, 12, .inl fk')), (qg, .inl (cI, 3, .inl fg'))]) rfl rfl (by decide) (by decide) (fun r u H locs hw hP hD hS => ?_)
          replace hw := hw.symm
          subst hw
          have hP : va_P D vwCl [(qb, .inl (cI, 12, .inl fb')), (qk, .inl (cI, 12, .inl fk')), (qg, .inl (cI, 3, .inl fg')), (xh, .inr (4, [.ref ch, .ref bh, .ref lg, .int lgd', .ref sh, .ref vh])), (ch, .inr (0, [.ref ca, .int ccc, .int cac, .int cfc, .int clc])), (ca, .inl (cI, 10, .inl cf')), (bh, .inr (0, [.ref ba, .int bcc', .int bac', .int bfc', .int blc'])), (ba, .inl (cI, 10, .inl bf')), (lg, .inl (cI, 12, .inl lgf)), (sh, .inr (2, [.ref sa, .int cnt, .int call])), (sa, .inl (cI, 12, .inl swf)), (vh, .inr (3, [.ref va])), (va, .inl (cI, 12, .inl fnf'))] H := hP
          have hD : va_D A [(qb, .inl (cI, 12, .inl fb')), (qk, .inl (cI, 12, .inl fk')), (qg, .inl (cI, 3, .inl fg')), (xh, .inr (4, [.ref ch, .ref bh, .ref lg, .int lgd', .ref sh, .ref vh])), (ch, .inr (0, [.ref ca, .int ccc, .int cac, .int cfc, .int clc])), (ca, .inl (cI, 10, .inl cf')), (bh, .inr (0, [.ref ba, .int bcc', .int bac', .int bfc', .int blc'])), (ba, .inl (cI, 10, .inl bf')), (lg, .inl (cI, 12, .inl lgf)), (sh, .inr (2, [.ref sa, .int cnt, .int call])), (sa, .inl (cI, 12, .inl swf)), (vh, .inr (3, [.ref va])), (va, .inl (cI, 12, .inl fnf'))] := hD
          refine lv_goto (tgt := 47) hx hb dL_makes_43 (by decide) ?_
          obtain ⟨i_35, h⟩ := h
          refine va_iast hx hb hK hP hD hS 0 0 rfl rfl i_35 dL_makes_47 (fun H locs hP hD hS => ?_)
          have hP : va_P D vwCl [(qb, .inl (cI, 12, .inl (upd fb' x7.toNatClampNeg (zni bf' x7 9)))), (qk, .inl (cI, 12, .inl fk')), (qg, .inl (cI, 3, .inl fg')), (xh, .inr (4, [.ref ch, .ref bh, .ref lg, .int lgd', .ref sh, .ref vh])), (ch, .inr (0, [.ref ca, .int ccc, .int cac, .int cfc, .int clc])), (ca, .inl (cI, 10, .inl cf')), (bh, .inr (0, [.ref ba, .int bcc', .int bac', .int bfc', .int blc'])), (ba, .inl (cI, 10, .inl bf')), (lg, .inl (cI, 12, .inl lgf)), (sh, .inr (2, [.ref sa, .int cnt, .int call])), (sa, .inl (cI, 12, .inl swf)), (vh, .inr (3, [.ref va])), (va, .inl (cI, 12, .inl fnf'))] H := hP
          have hD : va_D A [(qb, .inl (cI, 12, .inl (upd fb' x7.toNatClampNeg (zni bf' x7 9)))), (qk, .inl (cI, 12, .inl fk')), (qg, .inl (cI, 3, .inl fg')), (xh, .inr (4, [.ref ch, .ref bh, .ref lg, .int lgd', .ref sh, .ref vh])), (ch, .inr (0, [.ref ca, .int ccc, .int cac, .int cfc, .int clc])), (ca, .inl (cI, 10, .inl cf')), (bh, .inr (0, [.ref ba, .int bcc', .int bac', .int bfc', .int blc'])), (ba, .inl (cI, 10, .inl bf')), (lg, .inl (cI, 12, .inl lgf)), (sh, .inr (2, [.ref sa, .int cnt, .int call])), (sa, .inl (cI, 12, .inl swf)), (vh, .inr (3, [.ref va])), (va, .inl (cI, 12, .inl fnf'))] := hD
          refine lv_aload_n hx hb dL_makes_48 rfl (lv_at hl 3 rfl) ?_
          refine lv_iload hx hb dL_makes_49 (lv_at hl 7 rfl) ?_
          refine lv_aload_n hx hb dL_makes_51 rfl (lv_at hl 2 rfl) ?_
          refine lv_iload hx hb dL_makes_52 (lv_at hl 7 rfl) ?_
          obtain ⟨i_36, h⟩ := h
          refine va_iald hx hb hK hP 0 0 rfl rfl i_36 dL_makes_54 ?_
          refine lv_if_le (tgt := 62) hx hb dL_makes_55 (by decide) (fun c_37 => ?_) (fun c_37 => ?_)
          · have h := h.1 c_37
            refine lv_iconst (v := 0) hx hb dL_makes_62 (by decide) ?_
            obtain ⟨i_38, h⟩ := h
            refine va_iast hx hb hK hP hD hS 1 0 rfl rfl i_38 dL_makes_63 (fun H locs hP hD hS => ?_)
            have hP : va_P D vwCl [(qb, .inl (cI, 12, .inl (upd fb' x7.toNatClampNeg (zni bf' x7 9)))), (qk, .inl (cI, 12, .inl (upd fk' x7.toNatClampNeg 0))), (qg, .inl (cI, 3, .inl fg')), (xh, .inr (4, [.ref ch, .ref bh, .ref lg, .int lgd', .ref sh, .ref vh])), (ch, .inr (0, [.ref ca, .int ccc, .int cac, .int cfc, .int clc])), (ca, .inl (cI, 10, .inl cf')), (bh, .inr (0, [.ref ba, .int bcc', .int bac', .int bfc', .int blc'])), (ba, .inl (cI, 10, .inl bf')), (lg, .inl (cI, 12, .inl lgf)), (sh, .inr (2, [.ref sa, .int cnt, .int call])), (sa, .inl (cI, 12, .inl swf)), (vh, .inr (3, [.ref va])), (va, .inl (cI, 12, .inl fnf'))] H := hP
            have hD : va_D A [(qb, .inl (cI, 12, .inl (upd fb' x7.toNatClampNeg (zni bf' x7 9)))), (qk, .inl (cI, 12, .inl (upd fk' x7.toNatClampNeg 0))), (qg, .inl (cI, 3, .inl fg')), (xh, .inr (4, [.ref ch, .ref bh, .ref lg, .int lgd', .ref sh, .ref vh])), (ch, .inr (0, [.ref ca, .int ccc, .int cac, .int cfc, .int clc])), (ca, .inl (cI, 10, .inl cf')), (bh, .inr (0, [.ref ba, .int bcc', .int bac', .int bfc', .int blc'])), (ba, .inl (cI, 10, .inl bf')), (lg, .inl (cI, 12, .inl lgf)), (sh, .inr (2, [.ref sa, .int cnt, .int call])), (sa, .inl (cI, 12, .inl swf)), (vh, .inr (3, [.ref va])), (va, .inl (cI, 12, .inl fnf'))] := hD
            refine lv_iload hx hb dL_makes_64 (lv_at hl 6 rfl) ?_
            refine lv_aload_n hx hb dL_makes_66 rfl (lv_at hl 3 rfl) ?_
            refine lv_iload hx hb dL_makes_67 (lv_at hl 7 rfl) ?_
            obtain ⟨i_39, h⟩ := h
            refine va_iald hx hb hK hP 1 0 rfl rfl i_39 dL_makes_69 ?_
            refine lv_iadd hx hb dL_makes_70 ?_
            refine lv_topi (fun y_40 ey_40 => ?_)
            have h := h y_40 ey_40
            refine lv_istore (lv' := [(6, .int y_40), (0, .ref xh), (1, .int p1), (2, .ref qb), (3, .ref qk), (4, .ref qg), (5, .int x5), (7, .int x7)]) hx hb dL_makes_71 hl (by decide) rfl (fun ls hl => ?_)
            obtain ⟨y_41, ey_41⟩ : ∃ y : Int32, y = x7 + 1 := ⟨_, rfl⟩
            have h := h y_41 ey_41
            refine lv_iinc (v := y_41) (lv' := [(7, .int y_41), (6, .int y_40), (0, .ref xh), (1, .int p1), (2, .ref qb), (3, .ref qk), (4, .ref qg), (5, .int x5)]) hx hb dL_makes_73 hl (k := 7) rfl (by rw [ey_41]; rfl) (by decide) rfl (fun ls hl => ?_)
            refine lv_goto (tgt := 13) hx hb dL_makes_76 (by decide) ?_
            exact ih _ _ _ _ _ _ _ _ _ _ _ _ _ _ _ _ _ h.1 (Nat.lt_of_lt_of_le h.2 (Nat.le_of_lt_succ hmu)) (hP.sub [3, 4, 5, 6, 7, 8, 9, 10, 11, 12, 0, 1, 2] rfl) (hD.sub [3, 4, 5, 6, 7, 8, 9, 10, 11, 12, 0, 1, 2] (by decide) rfl) hS (lv_sub hl [2, 3, 4, 5, 6, 7, 1, 0] rfl)
          · have h := h.2 c_37
            refine lv_iconst (v := 1) hx hb dL_makes_58 (by decide) ?_
            refine lv_goto (tgt := 63) hx hb dL_makes_59 (by decide) ?_
            obtain ⟨i_42, h⟩ := h
            refine va_iast hx hb hK hP hD hS 1 0 rfl rfl i_42 dL_makes_63 (fun H locs hP hD hS => ?_)
            have hP : va_P D vwCl [(qb, .inl (cI, 12, .inl (upd fb' x7.toNatClampNeg (zni bf' x7 9)))), (qk, .inl (cI, 12, .inl (upd fk' x7.toNatClampNeg 1))), (qg, .inl (cI, 3, .inl fg')), (xh, .inr (4, [.ref ch, .ref bh, .ref lg, .int lgd', .ref sh, .ref vh])), (ch, .inr (0, [.ref ca, .int ccc, .int cac, .int cfc, .int clc])), (ca, .inl (cI, 10, .inl cf')), (bh, .inr (0, [.ref ba, .int bcc', .int bac', .int bfc', .int blc'])), (ba, .inl (cI, 10, .inl bf')), (lg, .inl (cI, 12, .inl lgf)), (sh, .inr (2, [.ref sa, .int cnt, .int call])), (sa, .inl (cI, 12, .inl swf)), (vh, .inr (3, [.ref va])), (va, .inl (cI, 12, .inl fnf'))] H := hP
            have hD : va_D A [(qb, .inl (cI, 12, .inl (upd fb' x7.toNatClampNeg (zni bf' x7 9)))), (qk, .inl (cI, 12, .inl (upd fk' x7.toNatClampNeg 1))), (qg, .inl (cI, 3, .inl fg')), (xh, .inr (4, [.ref ch, .ref bh, .ref lg, .int lgd', .ref sh, .ref vh])), (ch, .inr (0, [.ref ca, .int ccc, .int cac, .int cfc, .int clc])), (ca, .inl (cI, 10, .inl cf')), (bh, .inr (0, [.ref ba, .int bcc', .int bac', .int bfc', .int blc'])), (ba, .inl (cI, 10, .inl bf')), (lg, .inl (cI, 12, .inl lgf)), (sh, .inr (2, [.ref sa, .int cnt, .int call])), (sa, .inl (cI, 12, .inl swf)), (vh, .inr (3, [.ref va])), (va, .inl (cI, 12, .inl fnf'))] := hD
            refine lv_iload hx hb dL_makes_64 (lv_at hl 6 rfl) ?_
            refine lv_aload_n hx hb dL_makes_66 rfl (lv_at hl 3 rfl) ?_
            refine lv_iload hx hb dL_makes_67 (lv_at hl 7 rfl) ?_
            obtain ⟨i_43, h⟩ := h
            refine va_iald hx hb hK hP 1 0 rfl rfl i_43 dL_makes_69 ?_
            refine lv_iadd hx hb dL_makes_70 ?_
            refine lv_topi (fun y_44 ey_44 => ?_)
            have h := h y_44 ey_44
            refine lv_istore (lv' := [(6, .int y_44), (0, .ref xh), (1, .int p1), (2, .ref qb), (3, .ref qk), (4, .ref qg), (5, .int x5), (7, .int x7)]) hx hb dL_makes_71 hl (by decide) rfl (fun ls hl => ?_)
            obtain ⟨y_45, ey_45⟩ : ∃ y : Int32, y = x7 + 1 := ⟨_, rfl⟩
            have h := h y_45 ey_45
            refine lv_iinc (v := y_45) (lv' := [(7, .int y_45), (6, .int y_44), (0, .ref xh), (1, .int p1), (2, .ref qb), (3, .ref qk), (4, .ref qg), (5, .int x5)]) hx hb dL_makes_73 hl (k := 7) rfl (by rw [ey_45]; rfl) (by decide) rfl (fun ls hl => ?_)
            refine lv_goto (tgt := 13) hx hb dL_makes_76 (by decide) ?_
            exact ih _ _ _ _ _ _ _ _ _ _ _ _ _ _ _ _ _ h.1 (Nat.lt_of_lt_of_le h.2 (Nat.le_of_lt_succ hmu)) (hP.sub [3, 4, 5, 6, 7, 8, 9, 10, 11, 12, 0, 1, 2] rfl) (hD.sub [3, 4, 5, 6, 7, 8, 9, 10, 11, 12, 0, 1, 2] (by decide) rfl) hS (lv_sub hl [2, 3, 4, 5, 6, 7, 1, 0] rfl)
  have h := he
  unfold ve_L_makes at h
  have hl : lv_has ls 9 [(0, .ref xh), (1, .int p1), (2, .ref qb), (3, .ref qk), (4, .ref qg)] := hl
  refine lv_aload_n hx hb dL_makes_0 rfl (lv_at hl 0 rfl) ?_
  refine lv_iload_n hx hb dL_makes_1 rfl (lv_at hl 1 rfl) ?_
  obtain ⟨p_46, h⟩ := h
  have hPc := hP.sub (ws' := [(xh, .inr (4, [.ref ch, .ref bh, .ref lg, .int lgd, .ref sh, .ref vh])), (ch, .inr (0, [.ref ca, .int ccc, .int cac, .int cfc, .int clc])), (ca, .inl (cI, 10, .inl cf)), (bh, .inr (0, [.ref ba, .int bcc, .int bac, .int bfc, .int blc])), (ba, .inl (cI, 10, .inl bf)), (lg, .inl (cI, 12, .inl lgf)), (sh, .inr (2, [.ref sa, .int cnt, .int call])), (sa, .inl (cI, 12, .inl swf)), (vh, .inr (3, [.ref va])), (va, .inl (cI, 12, .inl fnf))]) [0, 1, 2, 3, 4, 5, 6, 7, 8, 9] rfl
  have hDc := hD.sub (ws' := [(xh, .inr (4, [.ref ch, .ref bh, .ref lg, .int lgd, .ref sh, .ref vh])), (ch, .inr (0, [.ref ca, .int ccc, .int cac, .int cfc, .int clc])), (ca, .inl (cI, 10, .inl cf)), (bh, .inr (0, [.ref ba, .int bcc, .int bac, .int bfc, .int blc])), (ba, .inl (cI, 10, .inl bf)), (lg, .inl (cI, 12, .inl lgf)), (sh, .inr (2, [.ref sa, .int cnt, .int call])), (sa, .inl (cI, 12, .inl swf)), (vh, .inr (3, [.ref va])), (va, .inl (cI, 12, .inl fnf))]) [0, 1, 2, 3, 4, 5, 6, 7, 8, 9] (by decide) rfl
  refine ff_callI (va_runV (As := [.int p1]) (rest := []) ⟨hx, hb, hml, hown, hts⟩ (c_X4_makeN l D cI xh ch ca bh ba lg sh sa vh va H.size lgd ccc cac cfc clc cf bcc bac bfc blc bf lgf cnt call swf fnf p1 p_46) (cwV 1 hts gL_makes_X4_make rfl rfl rfl (by decide +kernel) ⟨Nat.le_of_ble_eq_true rfl, Nat.le_of_ble_eq_true rfl⟩) (ff_preV (q := (RX4, TX4, 6)) (ci := 4) (q0 := 0) hPc hK hDc hN rfl rfl) rfl rfl hl.1 rfl (lv_room (Nat.le_of_ble_eq_true rfl)) dL_makes_2 ⟨Nat.le_of_ble_eq_true rfl, Nat.le_of_ble_eq_true rfl⟩) hP hD hS hA [0, 1, 2, 3, 4, 5, 6, 7, 8, 9] [10, 11, 12] (wr := [(qb, .inl (cI, 12, .inl fb)), (qk, .inl (cI, 12, .inl fk)), (qg, .inl (cI, 3, .inl fg))]) rfl rfl (by decide) (by decide) (fun r u H locs hw hP hD hS => ?_)
  obtain ⟨e0_w, e1_w⟩ := hw
  replace e0_w := e0_w.symm
  subst e0_w
  replace e1_w := e1_w.symm
  subst e1_w
  have hP : va_P D vwCl [(qb, .inl (cI, 12, .inl fb)), (qk, .inl (cI, 12, .inl fk)), (qg, .inl (cI, 3, .inl fg)), (xh, .inr (4, [.ref ch, .ref bh, .ref lg, .int 0, .ref sh, .ref vh])), (ch, .inr (0, [.ref ca, .int ccc, .int cac, .int cfc, .int clc])), (ca, .inl (cI, 10, .inl (zmkF ccc cac cfc clc cf fnf p1 (zN cac)))), (bh, .inr (0, [.ref ba, .int ccc, .int cac, .int cfc, .int clc])), (ba, .inl (cI, 10, .inl (zcp bf (zmkF ccc cac cfc clc cf fnf p1 (zN cac))))), (lg, .inl (cI, 12, .inl lgf)), (sh, .inr (2, [.ref sa, .int cnt, .int call])), (sa, .inl (cI, 12, .inl swf)), (vh, .inr (3, [.ref va])), (va, .inl (cI, 12, .inl (zsbn cac fnf (p1 : Int32).toInt64)))] H := hP
  have hD : va_D A [(qb, .inl (cI, 12, .inl fb)), (qk, .inl (cI, 12, .inl fk)), (qg, .inl (cI, 3, .inl fg)), (xh, .inr (4, [.ref ch, .ref bh, .ref lg, .int 0, .ref sh, .ref vh])), (ch, .inr (0, [.ref ca, .int ccc, .int cac, .int cfc, .int clc])), (ca, .inl (cI, 10, .inl (zmkF ccc cac cfc clc cf fnf p1 (zN cac)))), (bh, .inr (0, [.ref ba, .int ccc, .int cac, .int cfc, .int clc])), (ba, .inl (cI, 10, .inl (zcp bf (zmkF ccc cac cfc clc cf fnf p1 (zN cac))))), (lg, .inl (cI, 12, .inl lgf)), (sh, .inr (2, [.ref sa, .int cnt, .int call])), (sa, .inl (cI, 12, .inl swf)), (vh, .inr (3, [.ref va])), (va, .inl (cI, 12, .inl (zsbn cac fnf (p1 : Int32).toInt64)))] := hD
  refine lv_topi (fun y_47 ey_47 => ?_)
  have h := h y_47 ey_47
  refine lv_istore (lv' := [(5, .int y_47), (0, .ref xh), (1, .int p1), (2, .ref qb), (3, .ref qk), (4, .ref qg)]) hx hb dL_makes_5 hl (by decide) rfl (fun ls hl => ?_)
  refine lv_iconst (v := 0) hx hb dL_makes_7 (by decide) ?_
  refine lv_istore (lv' := [(6, .int 0), (5, .int y_47), (0, .ref xh), (1, .int p1), (2, .ref qb), (3, .ref qk), (4, .ref qg)]) hx hb dL_makes_8 hl (by decide) rfl (fun ls hl => ?_)
  refine lv_iconst (v := 0) hx hb dL_makes_10 (by decide) ?_
  refine lv_istore (lv' := [(7, .int 0), (6, .int 0), (5, .int y_47), (0, .ref xh), (1, .int p1), (2, .ref qb), (3, .ref qk), (4, .ref qg)]) hx hb dL_makes_11 hl (by decide) rfl (fun ls hl => ?_)
  exact L13 _ _ _ _ _ _ _ _ _ _ _ _ _ _ _ _ _ _ h (Nat.lt_succ_self _) (hP.sub [3, 4, 5, 6, 7, 8, 9, 10, 11, 12, 0, 1, 2] rfl) (hD.sub [3, 4, 5, 6, 7, 8, 9, 10, 11, 12, 0, 1, 2] (by decide) rfl) hS (lv_sub hl [3, 4, 5, 6, 7, 2, 1, 0] rfl)
theorem c_L_makes (l : Launch) (D : va_G) (cI : ClassId) (xh ch ca bh ba lg sh sa vh va qb qk qg : Nat) (sz : Nat) (lgd : Int32) (ccc : Int32) (cac : Int32) (cfc : Int32) (clc : Int32) (cf : Nat → Int32) (bcc : Int32) (bac : Int32) (bfc : Int32) (blc : Int32) (bf : Nat → Int32) (lgf : Nat → Int32) (cnt : Int32) (call : Int32) (swf : Nat → Int32) (fnf : Nat → Int32) (fb : Nat → Int32) (fk : Nat → Int32) (fg : Nat → Int32) (p1 : Int32) (hpre : PK ccc cac cfc clc cf bcc bac bfc blc bf fb fk fg ∧ ¬ p1 < 0) : Met l yL_makes wsL_makes ({ frames := 39, cells := 2, slots := 2, locals := 1051 } : Room) (ff_Pc D [(cI, .int)] [.ref xh, .int p1, .ref qb, .ref qk, .ref qg] ([(xh, .inr (4, [.ref ch, .ref bh, .ref lg, .int lgd, .ref sh, .ref vh])), (ch, .inr (0, [.ref ca, .int ccc, .int cac, .int cfc, .int clc])), (ca, .inl (cI, 10, .inl cf)), (bh, .inr (0, [.ref ba, .int bcc, .int bac, .int bfc, .int blc])), (ba, .inl (cI, 10, .inl bf)), (lg, .inl (cI, 12, .inl lgf)), (sh, .inr (2, [.ref sa, .int cnt, .int call])), (sa, .inl (cI, 12, .inl swf)), (vh, .inr (3, [.ref va])), (va, .inl (cI, 12, .inl fnf)), (qb, .inl (cI, 12, .inl fb)), (qk, .inl (cI, 12, .inl fk)), (qg, .inl (cI, 3, .inl fg))] : va_W) sz) (va_Qi (fun (r : Int32) (u : (Nat → Int32) × Int32 × Int32 × Int32 × Int32 × (Nat → Int32) × Int32 × (Nat → Int32) × (Nat → Int32) × (Nat → Int32) × (Nat → Int32)) => r = 1 ∧ (∀ z, PI u.2.2.2.2.2.2.1 ccc cac cfc clc u.1 u.2.1 u.2.2.1 u.2.2.2.1 u.2.2.2.2.1 u.2.2.2.2.2.1 lgf u.2.2.2.2.2.2.2.2.1 u.2.2.2.2.2.2.2.2.2.1 u.2.2.2.2.2.2.2.2.2.2 z)) (fun (u : (Nat → Int32) × Int32 × Int32 × Int32 × Int32 × (Nat → Int32) × Int32 × (Nat → Int32) × (Nat → Int32) × (Nat → Int32) × (Nat → Int32)) t => ff_B D [(cI, .int)] (va_A ([(xh, .inr (4, [.ref ch, .ref bh, .ref lg, .int lgd, .ref sh, .ref vh])), (ch, .inr (0, [.ref ca, .int ccc, .int cac, .int cfc, .int clc])), (ca, .inl (cI, 10, .inl cf)), (bh, .inr (0, [.ref ba, .int bcc, .int bac, .int bfc, .int blc])), (ba, .inl (cI, 10, .inl bf)), (lg, .inl (cI, 12, .inl lgf)), (sh, .inr (2, [.ref sa, .int cnt, .int call])), (sa, .inl (cI, 12, .inl swf)), (vh, .inr (3, [.ref va])), (va, .inl (cI, 12, .inl fnf)), (qb, .inl (cI, 12, .inl fb)), (qk, .inl (cI, 12, .inl fk)), (qg, .inl (cI, 3, .inl fg))] : va_W) sz) [(xh, .inr (4, [.ref ch, .ref bh, .ref lg, .int (u.2.2.2.2.2.2.1), .ref sh, .ref vh])), (ch, .inr (0, [.ref ca, .int ccc, .int cac, .int cfc, .int clc])), (ca, .inl (cI, 10, .inl (u.1))), (bh, .inr (0, [.ref ba, .int (u.2.1), .int (u.2.2.1), .int (u.2.2.2.1), .int (u.2.2.2.2.1)])), (ba, .inl (cI, 10, .inl (u.2.2.2.2.2.1))), (lg, .inl (cI, 12, .inl lgf)), (sh, .inr (2, [.ref sa, .int cnt, .int call])), (sa, .inl (cI, 12, .inl swf)), (vh, .inr (3, [.ref va])), (va, .inl (cI, 12, .inl (u.2.2.2.2.2.2.2.1))), (qb, .inl (cI, 12, .inl (u.2.2.2.2.2.2.2.2.1))), (qk, .inl (cI, 12, .inl (u.2.2.2.2.2.2.2.2.2.1))), (qg, .inl (cI, 3, .inl (u.2.2.2.2.2.2.2.2.2.2)))] t) (va_A ([(xh, .inr (4, [.ref ch, .ref bh, .ref lg, .int lgd, .ref sh, .ref vh])), (ch, .inr (0, [.ref ca, .int ccc, .int cac, .int cfc, .int clc])), (ca, .inl (cI, 10, .inl cf)), (bh, .inr (0, [.ref ba, .int bcc, .int bac, .int bfc, .int blc])), (ba, .inl (cI, 10, .inl bf)), (lg, .inl (cI, 12, .inl lgf)), (sh, .inr (2, [.ref sa, .int cnt, .int call])), (sa, .inl (cI, 12, .inl swf)), (vh, .inr (3, [.ref va])), (va, .inl (cI, 12, .inl fnf)), (qb, .inl (cI, 12, .inl fb)), (qk, .inl (cI, 12, .inl fk)), (qg, .inl (cI, 3, .inl fg))] : va_W) sz)) 2 2 (va_A ([(xh, .inr (4, [.ref ch, .ref bh, .ref lg, .int lgd, .ref sh, .ref vh])), (ch, .inr (0, [.ref ca, .int ccc, .int cac, .int cfc, .int clc])), (ca, .inl (cI, 10, .inl cf)), (bh, .inr (0, [.ref ba, .int bcc, .int bac, .int bfc, .int blc])), (ba, .inl (cI, 10, .inl bf)), (lg, .inl (cI, 12, .inl lgf)), (sh, .inr (2, [.ref sa, .int cnt, .int call])), (sa, .inl (cI, 12, .inl swf)), (vh, .inr (3, [.ref va])), (va, .inl (cI, 12, .inl fnf)), (qb, .inl (cI, 12, .inl fb)), (qk, .inl (cI, 12, .inl fk)), (qg, .inl (cI, 3, .inl fg))] : va_W) sz) :=
  a_L_makes l D cI xh ch ca bh ba lg sh sa vh va qb qk qg sz lgd ccc cac cfc clc cf bcc bac bfc blc bf lgf cnt call swf fnf fb fk fg p1 _ (I_L_makes_13 lgd ccc cac cfc clc cf bcc bac bfc blc bf lgf cnt call swf fnf fb fk fg p1) (mu_L_makes_13 lgd ccc cac cfc clc cf bcc bac bfc blc bf lgf cnt call swf fnf fb fk fg p1) (I_L_makes_120 lgd ccc cac cfc clc cf bcc bac bfc blc bf lgf cnt call swf fnf fb fk fg p1) (mu_L_makes_120 lgd ccc cac cfc clc cf bcc bac bfc blc bf lgf cnt call swf fnf fb fk fg p1) (pl_L_makes_13 lgd ccc cac cfc clc cf bcc bac bfc blc bf lgf cnt call swf fnf fb fk fg p1 hpre) (pl_L_makes_120 lgd ccc cac cfc clc cf bcc bac bfc blc bf lgf cnt call swf fnf fb fk fg p1 hpre) (pe_L_makes lgd ccc cac cfc clc cf bcc bac bfc blc bf lgf cnt call swf fnf fb fk fg p1 hpre)
