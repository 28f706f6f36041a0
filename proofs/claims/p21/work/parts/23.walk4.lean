theorem kX1_nextBelow_1 : (.fieldLink RX1 7 "FieldFiller$Draws" "state" "J" : Cond) ∈ wsX1_nextBelow := List.mem_of_getElem? (i := 1) rfl
theorem nX1_nextBelow_wsX10 : ∀ w ∈ wsX10, w ∈ wsX1_nextBelow := (fun w h => List.mem_cons_of_mem _ (List.mem_append_right _ h))
theorem kX1_nextBelow_2 : (.constantLong RX1 13 (1103515245) : Cond) ∈ wsX1_nextBelow := List.mem_of_getElem? (i := 2) rfl
theorem kX1_nextBelow_3 : (.constantLong RX1 15 (12345) : Cond) ∈ wsX1_nextBelow := List.mem_of_getElem? (i := 3) rfl
theorem kX1_nextBelow_4 : (.constantLong RX1 17 (2147483648) : Cond) ∈ wsX1_nextBelow := List.mem_of_getElem? (i := 4) rfl
theorem kX1_nextBelow_5 : (.constantLong RX1 19 (65536) : Cond) ∈ wsX1_nextBelow := List.mem_of_getElem? (i := 5) rfl
set_option maxHeartbeats 4000000 in
set_option maxRecDepth 100000 in
theorem a_X1_nextBelow (l : Launch) (D : va_G) (cI : ClassId) (dh : Nat) (sz : Nat) (ds : Int64) (p1 : Int32) (P : Int32 → Int64 → Prop)  (he : ve_X1_nextBelow ds p1 P ) : Met l yX1_nextBelow wsX1_nextBelow ({ frames := 0, cells := 0, slots := 0, locals := 0 } : Room) (ff_Pc D [(cI, .int)] [.ref dh, .int p1] ([(dh, .inr (1, [.long ds]))] : va_W) sz) (va_Qi P (fun (u : Int64) t => ff_B D [(cI, .int)] (va_A ([(dh, .inr (1, [.long ds]))] : va_W) sz) [(dh, .inr (1, [.long u]))] t) (va_A ([(dh, .inr (1, [.long ds]))] : va_W) sz)) 0 0 (va_A ([(dh, .inr (1, [.long ds]))] : va_W) sz) := by
  refine ff_metI (Wf := (fun (u : Int64) => ([(dh, .inr (1, [.long u]))] : va_W))) (by decide +kernel) rfl (Nat.le_of_ble_eq_true rfl) ?_
  intro p e s m args below meth c A Q ls H hx hb hml hown hts hN hA hK hP hD hS hret hl
  have h := he
  unfold ve_X1_nextBelow at h
  have hl : lv_has ls 2 [(0, .ref dh), (1, .int p1)] := hl
  refine lv_aload_n hx hb dX1_nextBelow_0 rfl (lv_at hl 0 rfl) ?_
  refine lv_aload_n hx hb dX1_nextBelow_1 rfl (lv_at hl 0 rfl) ?_
  refine va_get (D := D) (ci := 1) (v := .long ds) (C := RX1) (T := TX1) (N := 1) hx hb hts nX1_nextBelow_wsX10 hown hK hP 0 rfl rfl 0 (by decide) (hts _ kX1_nextBelow_1) (fun _ h9 => h9) rfl dX1_nextBelow_2 ?_
  refine lv_ldc2 hx hb hown (hts _ kX1_nextBelow_2) dX1_nextBelow_5 ?_
  refine lv_lmul hx hb dX1_nextBelow_8 ?_
  refine lv_ldc2 hx hb hown (hts _ kX1_nextBelow_3) dX1_nextBelow_9 ?_
  refine lv_ladd hx hb dX1_nextBelow_12 ?_
  refine lv_ldc2 hx hb hown (hts _ kX1_nextBelow_4) dX1_nextBelow_13 ?_
  refine lv_lrem hx hb dX1_nextBelow_16 (by decide) ?_
  refine va_put (D := D) (ci := 1) (v := .long (((ds * 1103515245) + 12345) - ((ds * 1103515245) + 12345) / 2147483648 * 2147483648)) (ty := .long) (C := RX1) (T := TX1) (N := 1) hx hb hts nX1_nextBelow_wsX10 tyX1 tyX1_ok nmX1 hown hK hP hD hS 0 rfl rfl 0 (by decide) (hts _ kX1_nextBelow_1) (fun _ h9 => h9) rfl (by decide +kernel) rfl rfl (Nat.le_of_ble_eq_true rfl) dX1_nextBelow_17 (fun H locs hP hD hS => ?_)
  have hP : va_P D vwCl [(dh, .inr (1, [.long (((ds * 1103515245) + 12345) - ((ds * 1103515245) + 12345) / 2147483648 * 2147483648)]))] H := hP
  have hD : va_D A [(dh, .inr (1, [.long (((ds * 1103515245) + 12345) - ((ds * 1103515245) + 12345) / 2147483648 * 2147483648)]))] := hD
  refine lv_iload_n hx hb dX1_nextBelow_20 rfl (lv_at hl 1 rfl) ?_
  refine lv_if_le (tgt := 39) hx hb dX1_nextBelow_21 (by decide) (fun c_1 => ?_) (fun c_1 => ?_)
  · have h := h.1 c_1
    refine lv_iconst (v := 0) hx hb dX1_nextBelow_39 (by decide) ?_
    exact hret 0 (((ds * 1103515245) + 12345) - ((ds * 1103515245) + 12345) / 2147483648 * 2147483648) _ _ _ _ _ _ h (hP.sub [0] rfl) (hD.sub [0] (by decide) rfl) hS (Nat.le_of_ble_eq_true rfl) (Nat.le_of_ble_eq_true rfl) dX1_nextBelow_40
  · have h := h.2 c_1
    refine lv_aload_n hx hb dX1_nextBelow_24 rfl (lv_at hl 0 rfl) ?_
    refine va_get (D := D) (ci := 1) (v := .long (((ds * 1103515245) + 12345) - ((ds * 1103515245) + 12345) / 2147483648 * 2147483648)) (C := RX1) (T := TX1) (N := 1) hx hb hts nX1_nextBelow_wsX10 hown hK hP 0 rfl rfl 0 (by decide) (hts _ kX1_nextBelow_1) (fun _ h9 => h9) rfl dX1_nextBelow_25 ?_
    refine lv_ldc2 hx hb hown (hts _ kX1_nextBelow_5) dX1_nextBelow_28 ?_
    refine lv_ldiv hx hb dX1_nextBelow_31 (by decide) ?_
    refine lv_iload_n hx hb dX1_nextBelow_32 rfl (lv_at hl 1 rfl) ?_
    refine lv_i2l hx hb dX1_nextBelow_33 rfl ?_
    obtain ⟨n_2, h⟩ := h
    refine lv_lrem hx hb dX1_nextBelow_34 n_2 ?_
    refine lv_l2i hx hb dX1_nextBelow_35 rfl ?_
    refine lv_goto (tgt := 40) hx hb dX1_nextBelow_36 (by decide) ?_
    exact hret ((((((ds * 1103515245) + 12345) - ((ds * 1103515245) + 12345) / 2147483648 * 2147483648) / 65536) - ((((ds * 1103515245) + 12345) - ((ds * 1103515245) + 12345) / 2147483648 * 2147483648) / 65536) / (p1.toInt64) * (p1.toInt64) : Int64).toInt32) (((ds * 1103515245) + 12345) - ((ds * 1103515245) + 12345) / 2147483648 * 2147483648) _ _ _ _ _ _ h (hP.sub [0] rfl) (hD.sub [0] (by decide) rfl) hS (Nat.le_of_ble_eq_true rfl) (Nat.le_of_ble_eq_true rfl) dX1_nextBelow_40
theorem c_X1_nextBelow (l : Launch) (D : va_G) (cI : ClassId) (dh : Nat) (sz : Nat) (ds : Int64) (p1 : Int32) : Met l yX1_nextBelow wsX1_nextBelow ({ frames := 0, cells := 0, slots := 0, locals := 0 } : Room) (ff_Pc D [(cI, .int)] [.ref dh, .int p1] ([(dh, .inr (1, [.long ds]))] : va_W) sz) (va_Qi (fun (r : Int32) (u : Int64) => r = znb (mdr ds) p1 ∧ u = (mdr ds)) (fun (u : Int64) t => ff_B D [(cI, .int)] (va_A ([(dh, .inr (1, [.long ds]))] : va_W) sz) [(dh, .inr (1, [.long u]))] t) (va_A ([(dh, .inr (1, [.long ds]))] : va_W) sz)) 0 0 (va_A ([(dh, .inr (1, [.long ds]))] : va_W) sz) :=
  a_X1_nextBelow l D cI dh sz ds p1 _  (pe_X1_nextBelow ds p1)
theorem kX2_forget_3 : (.fieldLink RX2 9 "FieldFiller$Shapes" "countWith" "[I" : Cond) ∈ wsX2_forget := List.mem_of_getElem? (i := 3) rfl
theorem nX2_forget_wsX20 : ∀ w ∈ wsX20, w ∈ wsX2_forget := (fun w h => List.mem_cons_of_mem _ (List.mem_append_right _ h))
theorem kX2_forget_1 : (.fieldLink RX2 15 "FieldFiller$Shapes" "count" "I" : Cond) ∈ wsX2_forget := List.mem_of_getElem? (i := 1) rfl
theorem kX2_forget_2 : (.fieldLink RX2 19 "FieldFiller$Shapes" "cellsOfAll" "I" : Cond) ∈ wsX2_forget := List.mem_of_getElem? (i := 2) rfl
set_option maxHeartbeats 4000000 in
set_option maxRecDepth 100000 in
theorem a_X2_forget (l : Launch) (D : va_G) (cI : ClassId) (sh sa : Nat) (sz : Nat) (cnt : Int32) (call : Int32) (swf : Nat → Int32) (P : (Int32 × Int32 × (Nat → Int32)) → Prop) (I12 : Int32 → Int32 → Int32 → (Nat → Int32) → Prop) (mu12 : Int32 → Int32 → Int32 → (Nat → Int32) → Nat) (hv12 : ∀ (x1 : Int32) (cnt' : Int32) (call' : Int32) (swf' : Nat → Int32), I12 x1 cnt' call' swf' → vs_X2_forget_12 cnt call swf P (fun (x19 : Int32) (cnt9 : Int32) (call9 : Int32) (swf9 : Nat → Int32) => I12 x19 cnt9 call9 swf9 ∧ mu12 x19 cnt9 call9 swf9 < mu12 x1 cnt' call' swf') x1 cnt' call' swf') (he : ve_X2_forget cnt call swf P I12) : Met l yX2_forget wsX2_forget ({ frames := 0, cells := 0, slots := 0, locals := 0 } : Room) (ff_Pc D [(cI, .int)] [.ref sh] ([(sh, .inr (2, [.ref sa, .int cnt, .int call])), (sa, .inl (cI, 12, .inl swf))] : va_W) sz) (va_Qv P (fun (u : Int32 × Int32 × (Nat → Int32)) t => ff_B D [(cI, .int)] (va_A ([(sh, .inr (2, [.ref sa, .int cnt, .int call])), (sa, .inl (cI, 12, .inl swf))] : va_W) sz) [(sh, .inr (2, [.ref sa, .int (u.1), .int (u.2.1)])), (sa, .inl (cI, 12, .inl (u.2.2)))] t) (va_A ([(sh, .inr (2, [.ref sa, .int cnt, .int call])), (sa, .inl (cI, 12, .inl swf))] : va_W) sz)) 0 0 (va_A ([(sh, .inr (2, [.ref sa, .int cnt, .int call])), (sa, .inl (cI, 12, .inl swf))] : va_W) sz) := by
  refine ff_metV (Wf := (fun (u : Int32 × Int32 × (Nat → Int32)) => ([(sh, .inr (2, [.ref sa, .int (u.1), .int (u.2.1)])), (sa, .inl (cI, 12, .inl (u.2.2)))] : va_W))) (by decide +kernel) rfl (Nat.le_of_ble_eq_true rfl) ?_
  intro p e s m args below meth c A Q ls H hx hb hml hown hin hts hN hA hK hP hD hS hret hl
  have L12 : ∀ (N : Nat) (x1 : Int32) (cnt' : Int32) (call' : Int32) (swf' : Nat → Int32) (H : Heap) (locs : List Loc) (ls : Array Slot), I12 x1 cnt' call' swf' → mu12 x1 cnt' call' swf' < N → va_P D vwCl [(sh, .inr (2, [.ref sa, .int cnt', .int call'])), (sa, .inl (cI, 12, .inl swf'))] H → va_D A [(sh, .inr (2, [.ref sa, .int cnt', .int call'])), (sa, .inl (cI, 12, .inl swf'))] → va_S A s.heap H locs → lv_has ls 2 [(0, .ref sh), (1, .int x1)] → W p l e ({ frames := 0, cells := 0, slots := 0, locals := 0 } : Room) s m args below meth c H locs 0 0 Q (F0 m 12 ls []) := by
    intro N
    induction N with
    | zero => intros; rename_i hz _ _ _ _; exact absurd hz (Nat.not_lt_zero _)
    | succ N ih =>
      intro x1 cnt' call' swf' H locs ls hI hmu hP hD hS hl
      have h := hv12 x1 cnt' call' swf' hI
      unfold vs_X2_forget_12 at h
      refine lv_iload_n hx hb dX2_forget_12 rfl (lv_at hl 1 rfl) ?_
      refine lv_aload_n hx hb dX2_forget_13 rfl (lv_at hl 0 rfl) ?_
      refine va_get (D := D) (ci := 2) (v := .ref sa) (C := RX2) (T := TX2) (N := 3) hx hb hts nX2_forget_wsX20 hown hK hP 0 rfl rfl 0 (by decide) (hts _ kX2_forget_3) (fun _ h9 => h9) rfl dX2_forget_14 ?_
      refine va_alen hx hb hK hP 1 0 rfl rfl (v := 12) rfl dX2_forget_17 ?_
      refine lv_icmp_ge (tgt := 34) hx hb dX2_forget_18 (by decide) (fun c_1 => ?_) (fun c_1 => ?_)
      · have h := h.1 c_1
        exact hret (cnt', call', swf') _ _ _ _ _ _ h (hP.sub [0, 1] rfl) (hD.sub [0, 1] (by decide) rfl) hS (Nat.le_of_ble_eq_true rfl) (Nat.le_of_ble_eq_true rfl) dX2_forget_34
      · have h := h.2 c_1
        refine lv_aload_n hx hb dX2_forget_21 rfl (lv_at hl 0 rfl) ?_
        refine va_get (D := D) (ci := 2) (v := .ref sa) (C := RX2) (T := TX2) (N := 3) hx hb hts nX2_forget_wsX20 hown hK hP 0 rfl rfl 0 (by decide) (hts _ kX2_forget_3) (fun _ h9 => h9) rfl dX2_forget_22 ?_
        refine lv_iload_n hx hb dX2_forget_25 rfl (lv_at hl 1 rfl) ?_
        refine lv_iconst (v := 0) hx hb dX2_forget_26 (by decide) ?_
        obtain ⟨i_2, h⟩ := h
        refine va_iast hx hb hK hP hD hS 1 0 rfl rfl i_2 dX2_forget_27 (fun H locs hP hD hS => ?_)
        have hP : va_P D vwCl [(sh, .inr (2, [.ref sa, .int cnt', .int call'])), (sa, .inl (cI, 12, .inl (upd swf' x1.toNatClampNeg 0)))] H := hP
        have hD : va_D A [(sh, .inr (2, [.ref sa, .int cnt', .int call'])), (sa, .inl (cI, 12, .inl (upd swf' x1.toNatClampNeg 0)))] := hD
        obtain ⟨y_3, ey_3⟩ : ∃ y : Int32, y = x1 + 1 := ⟨_, rfl⟩
        have h := h y_3 ey_3
        refine lv_iinc (v := y_3) (lv' := [(1, .int y_3), (0, .ref sh)]) hx hb dX2_forget_28 hl (k := 1) rfl (by rw [ey_3]; rfl) (by decide) rfl (fun ls hl => ?_)
        refine lv_goto (tgt := 12) hx hb dX2_forget_31 (by decide) ?_
        exact ih _ _ _ _ _ _ _ h.1 (Nat.lt_of_lt_of_le h.2 (Nat.le_of_lt_succ hmu)) (hP.sub [0, 1] rfl) (hD.sub [0, 1] (by decide) rfl) hS (lv_sub hl [1, 0] rfl)
  have h := he
  unfold ve_X2_forget at h
  have hl : lv_has ls 2 [(0, .ref sh)] := hl
  refine lv_aload_n hx hb dX2_forget_0 rfl (lv_at hl 0 rfl) ?_
  refine lv_iconst (v := 0) hx hb dX2_forget_1 (by decide) ?_
  refine va_put (D := D) (ci := 2) (v := .int 0) (ty := .int) (C := RX2) (T := TX2) (N := 3) hx hb hts nX2_forget_wsX20 tyX2 tyX2_ok nmX2 hown hK hP hD hS 0 rfl rfl 1 (by decide) (hts _ kX2_forget_1) (fun _ h9 => h9) rfl (by decide +kernel) rfl rfl (Nat.le_of_ble_eq_true rfl) dX2_forget_2 (fun H locs hP hD hS => ?_)
  have hP : va_P D vwCl [(sh, .inr (2, [.ref sa, .int 0, .int call])), (sa, .inl (cI, 12, .inl swf))] H := hP
  have hD : va_D A [(sh, .inr (2, [.ref sa, .int 0, .int call])), (sa, .inl (cI, 12, .inl swf))] := hD
  refine lv_aload_n hx hb dX2_forget_5 rfl (lv_at hl 0 rfl) ?_
  refine lv_iconst (v := 0) hx hb dX2_forget_6 (by decide) ?_
  refine va_put (D := D) (ci := 2) (v := .int 0) (ty := .int) (C := RX2) (T := TX2) (N := 3) hx hb hts nX2_forget_wsX20 tyX2 tyX2_ok nmX2 hown hK hP hD hS 0 rfl rfl 2 (by decide) (hts _ kX2_forget_2) (fun _ h9 => h9) rfl (by decide +kernel) rfl rfl (Nat.le_of_ble_eq_true rfl) dX2_forget_7 (fun H locs hP hD hS => ?_)
  have hP : va_P D vwCl [(sh, .inr (2, [.ref sa, .int 0, .int 0])), (sa, .inl (cI, 12, .inl swf))] H := hP
  have hD : va_D A [(sh, .inr (2, [.ref sa, .int 0, .int 0])), (sa, .inl (cI, 12, .inl swf))] := hD
  refine lv_iconst (v := 0) hx hb dX2_forget_10 (by decide) ?_
  refine lv_istore_n (lv' := [(1, .int 0), (0, .ref sh)]) hx hb dX2_forget_11 rfl hl (by decide) rfl (fun ls hl => ?_)
  exact L12 _ _ _ _ _ _ _ _ h (Nat.lt_succ_self _) (hP.sub [0, 1] rfl) (hD.sub [0, 1] (by decide) rfl) hS (lv_sub hl [1, 0] rfl)
theorem c_X2_forget (l : Launch) (D : va_G) (cI : ClassId) (sh sa : Nat) (sz : Nat) (cnt : Int32) (call : Int32) (swf : Nat → Int32) : Met l yX2_forget wsX2_forget ({ frames := 0, cells := 0, slots := 0, locals := 0 } : Room) (ff_Pc D [(cI, .int)] [.ref sh] ([(sh, .inr (2, [.ref sa, .int cnt, .int call])), (sa, .inl (cI, 12, .inl swf))] : va_W) sz) (va_Qv (fun (u : Int32 × Int32 × (Nat → Int32)) => u = (0, 0, mz12 swf)) (fun (u : Int32 × Int32 × (Nat → Int32)) t => ff_B D [(cI, .int)] (va_A ([(sh, .inr (2, [.ref sa, .int cnt, .int call])), (sa, .inl (cI, 12, .inl swf))] : va_W) sz) [(sh, .inr (2, [.ref sa, .int (u.1), .int (u.2.1)])), (sa, .inl (cI, 12, .inl (u.2.2)))] t) (va_A ([(sh, .inr (2, [.ref sa, .int cnt, .int call])), (sa, .inl (cI, 12, .inl swf))] : va_W) sz)) 0 0 (va_A ([(sh, .inr (2, [.ref sa, .int cnt, .int call])), (sa, .inl (cI, 12, .inl swf))] : va_W) sz) :=
  a_X2_forget l D cI sh sa sz cnt call swf _ (I_X2_forget_12 cnt call swf) (mu_X2_forget_12 cnt call swf) (pl_X2_forget_12 cnt call swf) (pe_X2_forget cnt call swf)
theorem kX2_note_3 : (.fieldLink RX2 9 "FieldFiller$Shapes" "countWith" "[I" : Cond) ∈ wsX2_note := List.mem_of_getElem? (i := 3) rfl
theorem nX2_note_wsX20 : ∀ w ∈ wsX20, w ∈ wsX2_note := (fun w h => List.mem_cons_of_mem _ (List.mem_append_right _ h))
theorem kX2_note_5 : (.initialized RX0 : Cond) ∈ wsX2_note := List.mem_of_getElem? (i := 5) rfl
theorem kX2_note_4 : (.static yX0_has : Cond) ∈ wsX2_note := List.mem_of_getElem? (i := 4) rfl
theorem kX2_note_1 : (.fieldLink RX2 15 "FieldFiller$Shapes" "count" "I" : Cond) ∈ wsX2_note := List.mem_of_getElem? (i := 1) rfl
theorem kX2_note_2 : (.fieldLink RX2 19 "FieldFiller$Shapes" "cellsOfAll" "I" : Cond) ∈ wsX2_note := List.mem_of_getElem? (i := 2) rfl
set_option maxHeartbeats 4000000 in
set_option maxRecDepth 100000 in
theorem a_X2_note (l : Launch) (D : va_G) (cI : ClassId) (sh sa : Nat) (sz : Nat) (cnt : Int32) (call : Int32) (swf : Nat → Int32) (p1 : Int32) (P : (Int32 × Int32 × (Nat → Int32)) → Prop) (I33 : Int32 → Int32 → Int32 → (Nat → Int32) → Prop) (mu33 : Int32 → Int32 → Int32 → (Nat → Int32) → Nat) (hv33 : ∀ (x2 : Int32) (call' : Int32) (cnt' : Int32) (swf' : Nat → Int32), I33 x2 call' cnt' swf' → vs_X2_note_33 cnt call swf p1 P (fun (x29 : Int32) (call9 : Int32) (cnt9 : Int32) (swf9 : Nat → Int32) => I33 x29 call9 cnt9 swf9 ∧ mu33 x29 call9 cnt9 swf9 < mu33 x2 call' cnt' swf') x2 call' cnt' swf') (he : ve_X2_note cnt call swf p1 P I33) : Met l yX2_note wsX2_note ({ frames := 2, cells := 0, slots := 0, locals := 41 } : Room) (ff_Pc D [(cI, .int)] [.ref sh, .int p1] ([(sh, .inr (2, [.ref sa, .int cnt, .int call])), (sa, .inl (cI, 12, .inl swf))] : va_W) sz) (va_Qv P (fun (u : Int32 × Int32 × (Nat → Int32)) t => ff_B D [(cI, .int)] (va_A ([(sh, .inr (2, [.ref sa, .int cnt, .int call])), (sa, .inl (cI, 12, .inl swf))] : va_W) sz) [(sh, .inr (2, [.ref sa, .int (u.2.1), .int (u.1)])), (sa, .inl (cI, 12, .inl (u.2.2)))] t) (va_A ([(sh, .inr (2, [.ref sa, .int cnt, .int call])), (sa, .inl (cI, 12, .inl swf))] : va_W) sz)) 0 0 (va_A ([(sh, .inr (2, [.ref sa, .int cnt, .int call])), (sa, .inl (cI, 12, .inl swf))] : va_W) sz) := by
  refine ff_metV (Wf := (fun (u : Int32 × Int32 × (Nat → Int32)) => ([(sh, .inr (2, [.ref sa, .int (u.2.1), .int (u.1)])), (sa, .inl (cI, 12, .inl (u.2.2)))] : va_W))) (by decide +kernel) rfl (Nat.le_of_ble_eq_true rfl) ?_
  intro p e s m args below meth c A Q ls H hx hb hml hown hin hts hN hA hK hP hD hS hret hl
  have L33 : ∀ (N : Nat) (x2 : Int32) (call' : Int32) (cnt' : Int32) (swf' : Nat → Int32) (H : Heap) (locs : List Loc) (ls : Array Slot), I33 x2 call' cnt' swf' → mu33 x2 call' cnt' swf' < N → va_P D vwCl [(sh, .inr (2, [.ref sa, .int cnt', .int call'])), (sa, .inl (cI, 12, .inl swf'))] H → va_D A [(sh, .inr (2, [.ref sa, .int cnt', .int call'])), (sa, .inl (cI, 12, .inl swf'))] → va_S A s.heap H locs → lv_has ls 3 [(0, .ref sh), (1, .int p1), (2, .int x2)] → W p l e ({ frames := 2, cells := 0, slots := 0, locals := 41 } : Room) s m args below meth c H locs 0 0 Q (F0 m 33 ls []) := by
    intro N
    induction N with
    | zero => intros; rename_i hz _ _ _ _; exact absurd hz (Nat.not_lt_zero _)
    | succ N ih =>
      intro x2 call' cnt' swf' H locs ls hI hmu hP hD hS hl
      have h := hv33 x2 call' cnt' swf' hI
      unfold vs_X2_note_33 at h
      refine lv_iload_n hx hb dX2_note_33 rfl (lv_at hl 2 rfl) ?_
      refine lv_aload_n hx hb dX2_note_34 rfl (lv_at hl 0 rfl) ?_
      refine va_get (D := D) (ci := 2) (v := .ref sa) (C := RX2) (T := TX2) (N := 3) hx hb hts nX2_note_wsX20 hown hK hP 0 rfl rfl 0 (by decide) (hts _ kX2_note_3) (fun _ h9 => h9) rfl dX2_note_35 ?_
      refine va_alen hx hb hK hP 1 0 rfl rfl (v := 12) rfl dX2_note_38 ?_
      refine lv_icmp_ge (tgt := 66) hx hb dX2_note_39 (by decide) (fun c_1 => ?_) (fun c_1 => ?_)
      · have h := h.1 c_1
        exact hret (call', cnt', swf') _ _ _ _ _ _ h (hP.sub [0, 1] rfl) (hD.sub [0, 1] (by decide) rfl) hS (Nat.le_of_ble_eq_true rfl) (Nat.le_of_ble_eq_true rfl) dX2_note_66
      · have h := h.2 c_1
        refine lv_iload_n hx hb dX2_note_42 rfl (lv_at hl 1 rfl) ?_
        refine lv_iload_n hx hb dX2_note_43 rfl (lv_at hl 2 rfl) ?_
        have hPc := hP.sub (ws' := []) [] rfl
        have hDc := hD.sub (ws' := []) [] (by decide) rfl
        refine ff_callI (va_runSN (As := [.int p1, .int x2]) (rest := []) ⟨hx, hb, hml, hown, hts⟩ (c_X0_has l D cI H.size p1 x2) ⟨va_cnB 2 hts gX2_note_X0_has_n45 rfl rfl rfl (ff_nm hN 4 rfl) (hts _ kX2_note_5) (by decide +kernel) ⟨Nat.le_of_ble_eq_true rfl, Nat.le_of_ble_eq_true rfl⟩, (hts _ kX2_note_4), trivial⟩ (ff_preS hPc hK hDc hN) rfl rfl hl.1 rfl (lv_room (Nat.le_of_ble_eq_true rfl)) dX2_note_44 ⟨Nat.le_of_ble_eq_true rfl, Nat.le_of_ble_eq_true rfl⟩) hP hD hS hA [] [0, 1] (wr := [(sh, .inr (2, [.ref sa, .int cnt', .int call'])), (sa, .inl (cI, 12, .inl swf'))]) rfl rfl (by decide) (by decide) (fun r u H locs hw hP hD hS => ?_)
        replace hw := hw.symm
        subst hw
        have hP : va_P D vwCl [(sh, .inr (2, [.ref sa, .int cnt', .int call'])), (sa, .inl (cI, 12, .inl swf'))] H := hP
        have hD : va_D A [(sh, .inr (2, [.ref sa, .int cnt', .int call'])), (sa, .inl (cI, 12, .inl swf'))] := hD
        refine lv_if_eq (tgt := 60) hx hb dX2_note_47 (by decide) (fun c_2 => ?_) (fun c_2 => ?_)
        · have h := h.1 c_2
          obtain ⟨y_3, ey_3⟩ : ∃ y : Int32, y = x2 + 1 := ⟨_, rfl⟩
          have h := h y_3 ey_3
          refine lv_iinc (v := y_3) (lv' := [(2, .int y_3), (0, .ref sh), (1, .int p1)]) hx hb dX2_note_60 hl (k := 2) rfl (by rw [ey_3]; rfl) (by decide) rfl (fun ls hl => ?_)
          refine lv_goto (tgt := 33) hx hb dX2_note_63 (by decide) ?_
          exact ih _ _ _ _ _ _ _ h.1 (Nat.lt_of_lt_of_le h.2 (Nat.le_of_lt_succ hmu)) (hP.sub [0, 1] rfl) (hD.sub [0, 1] (by decide) rfl) hS (lv_sub hl [1, 2, 0] rfl)
        · have h := h.2 c_2
          refine lv_aload_n hx hb dX2_note_50 rfl (lv_at hl 0 rfl) ?_
          refine va_get (D := D) (ci := 2) (v := .ref sa) (C := RX2) (T := TX2) (N := 3) hx hb hts nX2_note_wsX20 hown hK hP 0 rfl rfl 0 (by decide) (hts _ kX2_note_3) (fun _ h9 => h9) rfl dX2_note_51 ?_
          refine lv_iload_n hx hb dX2_note_54 rfl (lv_at hl 2 rfl) ?_
          refine lv_dup2_11 hx hb dX2_note_55 rfl rfl ?_
          obtain ⟨i_4, h⟩ := h
          refine va_iald hx hb hK hP 1 0 rfl rfl i_4 dX2_note_56 ?_
          refine lv_iconst (v := 1) hx hb dX2_note_57 (by decide) ?_
          refine lv_iadd hx hb dX2_note_58 ?_
          obtain ⟨i_5, h⟩ := h
          refine va_iast hx hb hK hP hD hS 1 0 rfl rfl i_5 dX2_note_59 (fun H locs hP hD hS => ?_)
          have hP : va_P D vwCl [(sh, .inr (2, [.ref sa, .int cnt', .int call'])), (sa, .inl (cI, 12, .inl (upd swf' x2.toNatClampNeg ((swf' x2.toNatClampNeg) + 1))))] H := hP
          have hD : va_D A [(sh, .inr (2, [.ref sa, .int cnt', .int call'])), (sa, .inl (cI, 12, .inl (upd swf' x2.toNatClampNeg ((swf' x2.toNatClampNeg) + 1))))] := hD
          obtain ⟨y_6, ey_6⟩ : ∃ y : Int32, y = x2 + 1 := ⟨_, rfl⟩
          have h := h y_6 ey_6
          refine lv_iinc (v := y_6) (lv' := [(2, .int y_6), (0, .ref sh), (1, .int p1)]) hx hb dX2_note_60 hl (k := 2) rfl (by rw [ey_6]; rfl) (by decide) rfl (fun ls hl => ?_)
          refine lv_goto (tgt := 33) hx hb dX2_note_63 (by decide) ?_
          exact ih _ _ _ _ _ _ _ h.1 (Nat.lt_of_lt_of_le h.2 (Nat.le_of_lt_succ hmu)) (hP.sub [0, 1] rfl) (hD.sub [0, 1] (by decide) rfl) hS (lv_sub hl [1, 2, 0] rfl)
  have h := he
  unfold ve_X2_note at h
  have hl : lv_has ls 3 [(0, .ref sh), (1, .int p1)] := hl
  refine lv_aload_n hx hb dX2_note_0 rfl (lv_at hl 0 rfl) ?_
  refine lv_aload_n hx hb dX2_note_1 rfl (lv_at hl 0 rfl) ?_
  refine va_get (D := D) (ci := 2) (v := .int cnt) (C := RX2) (T := TX2) (N := 3) hx hb hts nX2_note_wsX20 hown hK hP 0 rfl rfl 1 (by decide) (hts _ kX2_note_1) (fun _ h9 => h9) rfl dX2_note_2 ?_
  refine lv_if_ne (tgt := 12) hx hb dX2_note_5 (by decide) (fun c_7 => ?_) (fun c_7 => ?_)
  · have h := h.2 c_7
    refine lv_aload_n hx hb dX2_note_12 rfl (lv_at hl 0 rfl) ?_
    refine va_get (D := D) (ci := 2) (v := .int call) (C := RX2) (T := TX2) (N := 3) hx hb hts nX2_note_wsX20 hown hK hP 0 rfl rfl 2 (by decide) (hts _ kX2_note_2) (fun _ h9 => h9) rfl dX2_note_13 ?_
    refine lv_iload_n hx hb dX2_note_16 rfl (lv_at hl 1 rfl) ?_
    refine lv_iand hx hb dX2_note_17 ?_
    refine va_put (D := D) (ci := 2) (v := .int (call &&& p1)) (ty := .int) (C := RX2) (T := TX2) (N := 3) hx hb hts nX2_note_wsX20 tyX2 tyX2_ok nmX2 hown hK hP hD hS 0 rfl rfl 2 (by decide) (hts _ kX2_note_2) (fun _ h9 => h9) rfl (by decide +kernel) rfl rfl (Nat.le_of_ble_eq_true rfl) dX2_note_18 (fun H locs hP hD hS => ?_)
    have hP : va_P D vwCl [(sh, .inr (2, [.ref sa, .int cnt, .int (call &&& p1)])), (sa, .inl (cI, 12, .inl swf))] H := hP
    have hD : va_D A [(sh, .inr (2, [.ref sa, .int cnt, .int (call &&& p1)])), (sa, .inl (cI, 12, .inl swf))] := hD
    refine lv_aload_n hx hb dX2_note_21 rfl (lv_at hl 0 rfl) ?_
    refine lv_dup hx hb dX2_note_22 rfl ?_
    refine va_get (D := D) (ci := 2) (v := .int cnt) (C := RX2) (T := TX2) (N := 3) hx hb hts nX2_note_wsX20 hown hK hP 0 rfl rfl 1 (by decide) (hts _ kX2_note_1) (fun _ h9 => h9) rfl dX2_note_23 ?_
    refine lv_iconst (v := 1) hx hb dX2_note_26 (by decide) ?_
    refine lv_iadd hx hb dX2_note_27 ?_
    refine va_put (D := D) (ci := 2) (v := .int (cnt + 1)) (ty := .int) (C := RX2) (T := TX2) (N := 3) hx hb hts nX2_note_wsX20 tyX2 tyX2_ok nmX2 hown hK hP hD hS 0 rfl rfl 1 (by decide) (hts _ kX2_note_1) (fun _ h9 => h9) rfl (by decide +kernel) rfl rfl (Nat.le_of_ble_eq_true rfl) dX2_note_28 (fun H locs hP hD hS => ?_)
    have hP : va_P D vwCl [(sh, .inr (2, [.ref sa, .int (cnt + 1), .int (call &&& p1)])), (sa, .inl (cI, 12, .inl swf))] H := hP
    have hD : va_D A [(sh, .inr (2, [.ref sa, .int (cnt + 1), .int (call &&& p1)])), (sa, .inl (cI, 12, .inl swf))] := hD
    refine lv_iconst (v := 0) hx hb dX2_note_31 (by decide) ?_
    refine lv_istore_n (lv' := [(2, .int 0), (0, .ref sh), (1, .int p1)]) hx hb dX2_note_32 rfl hl (by decide) rfl (fun ls hl => ?_)
    exact L33 _ _ _ _ _ _ _ _ h (Nat.lt_succ_self _) (hP.sub [0, 1] rfl) (hD.sub [0, 1] (by decide) rfl) hS (lv_sub hl [1, 2, 0] rfl)
  · have h := h.1 c_7
    refine lv_iload_n hx hb dX2_note_8 rfl (lv_at hl 1 rfl) ?_
    refine lv_goto (tgt := 18) hx hb dX2_note_9 (by decide) ?_
    refine va_put (D := D) (ci := 2) (v := .int p1) (ty := .int) (C := RX2) (T := TX2) (N := 3) hx hb hts nX2_note_wsX20 tyX2 tyX2_ok nmX2 hown hK hP hD hS 0 rfl rfl 2 (by decide) (hts _ kX2_note_2) (fun _ h9 => h9) rfl (by decide +kernel) rfl rfl (Nat.le_of_ble_eq_true rfl) dX2_note_18 (fun H locs hP hD hS => ?_)
    have hP : va_P D vwCl [(sh, .inr (2, [.ref sa, .int cnt, .int p1])), (sa, .inl (cI, 12, .inl swf))] H := hP
    have hD : va_D A [(sh, .inr (2, [.ref sa, .int cnt, .int p1])), (sa, .inl (cI, 12, .inl swf))] := hD
    refine lv_aload_n hx hb dX2_note_21 rfl (lv_at hl 0 rfl) ?_
    refine lv_dup hx hb dX2_note_22 rfl ?_
    refine va_get (D := D) (ci := 2) (v := .int cnt) (C := RX2) (T := TX2) (N := 3) hx hb hts nX2_note_wsX20 hown hK hP 0 rfl rfl 1 (by decide) (hts _ kX2_note_1) (fun _ h9 => h9) rfl dX2_note_23 ?_
    refine lv_iconst (v := 1) hx hb dX2_note_26 (by decide) ?_
    refine lv_iadd hx hb dX2_note_27 ?_
    refine va_put (D := D) (ci := 2) (v := .int (cnt + 1)) (ty := .int) (C := RX2) (T := TX2) (N := 3) hx hb hts nX2_note_wsX20 tyX2 tyX2_ok nmX2 hown hK hP hD hS 0 rfl rfl 1 (by decide) (hts _ kX2_note_1) (fun _ h9 => h9) rfl (by decide +kernel) rfl rfl (Nat.le_of_ble_eq_true rfl) dX2_note_28 (fun H locs hP hD hS => ?_)
    have hP : va_P D vwCl [(sh, .inr (2, [.ref sa, .int (cnt + 1), .int p1])), (sa, .inl (cI, 12, .inl swf))] H := hP
    have hD : va_D A [(sh, .inr (2, [.ref sa, .int (cnt + 1), .int p1])), (sa, .inl (cI, 12, .inl swf))] := hD
    refine lv_iconst (v := 0) hx hb dX2_note_31 (by decide) ?_
    refine lv_istore_n (lv' := [(2, .int 0), (0, .ref sh), (1, .int p1)]) hx hb dX2_note_32 rfl hl (by decide) rfl (fun ls hl => ?_)
    exact L33 _ _ _ _ _ _ _ _ h (Nat.lt_succ_self _) (hP.sub [0, 1] rfl) (hD.sub [0, 1] (by decide) rfl) hS (lv_sub hl [1, 2, 0] rfl)
theorem c_X2_note (l : Launch) (D : va_G) (cI : ClassId) (sh sa : Nat) (sz : Nat) (cnt : Int32) (call : Int32) (swf : Nat → Int32) (p1 : Int32) : Met l yX2_note wsX2_note ({ frames := 2, cells := 0, slots := 0, locals := 41 } : Room) (ff_Pc D [(cI, .int)] [.ref sh, .int p1] ([(sh, .inr (2, [.ref sa, .int cnt, .int call])), (sa, .inl (cI, 12, .inl swf))] : va_W) sz) (va_Qv (fun (u : Int32 × Int32 × (Nat → Int32)) => u = (if cnt = 0 then p1 else call &&& p1, cnt + 1, znt swf p1)) (fun (u : Int32 × Int32 × (Nat → Int32)) t => ff_B D [(cI, .int)] (va_A ([(sh, .inr (2, [.ref sa, .int cnt, .int call])), (sa, .inl (cI, 12, .inl swf))] : va_W) sz) [(sh, .inr (2, [.ref sa, .int (u.2.1), .int (u.1)])), (sa, .inl (cI, 12, .inl (u.2.2)))] t) (va_A ([(sh, .inr (2, [.ref sa, .int cnt, .int call])), (sa, .inl (cI, 12, .inl swf))] : va_W) sz)) 0 0 (va_A ([(sh, .inr (2, [.ref sa, .int cnt, .int call])), (sa, .inl (cI, 12, .inl swf))] : va_W) sz) :=
  a_X2_note l D cI sh sa sz cnt call swf p1 _ (I_X2_note_33 cnt call swf p1) (mu_X2_note_33 cnt call swf p1) (pl_X2_note_33 cnt call swf p1) (pe_X2_note cnt call swf p1)
theorem kX2_countOfThoseWith_1 : (.fieldLink RX2 9 "FieldFiller$Shapes" "countWith" "[I" : Cond) ∈ wsX2_countOfThoseWith := List.mem_of_getElem? (i := 1) rfl
theorem nX2_countOfThoseWith_wsX20 : ∀ w ∈ wsX20, w ∈ wsX2_countOfThoseWith := (fun w h => List.mem_cons_of_mem _ (List.mem_append_right _ h))
set_option maxHeartbeats 4000000 in
set_option maxRecDepth 100000 in
theorem a_X2_countOfThoseWith (l : Launch) (D : va_G) (cI : ClassId) (sh sa : Nat) (sz : Nat) (cnt : Int32) (call : Int32) (swf : Nat → Int32) (p1 : Int32) (P : Int32 → Unit → Prop)  (he : ve_X2_countOfThoseWith cnt call swf p1 P ) : Met l yX2_countOfThoseWith wsX2_countOfThoseWith ({ frames := 0, cells := 0, slots := 0, locals := 0 } : Room) (ff_Pc D [(cI, .int)] [.ref sh, .int p1] ([(sh, .inr (2, [.ref sa, .int cnt, .int call])), (sa, .inl (cI, 12, .inl swf))] : va_W) sz) (va_Qi P (fun (u : Unit) t => ff_B D [(cI, .int)] (va_A ([(sh, .inr (2, [.ref sa, .int cnt, .int call])), (sa, .inl (cI, 12, .inl swf))] : va_W) sz) [(sh, .inr (2, [.ref sa, .int cnt, .int call])), (sa, .inl (cI, 12, .inl swf))] t) (va_A ([(sh, .inr (2, [.ref sa, .int cnt, .int call])), (sa, .inl (cI, 12, .inl swf))] : va_W) sz)) 0 0 (va_A ([(sh, .inr (2, [.ref sa, .int cnt, .int call])), (sa, .inl (cI, 12, .inl swf))] : va_W) sz) := by
  refine ff_metI (Wf := (fun (u : Unit) => ([(sh, .inr (2, [.ref sa, .int cnt, .int call])), (sa, .inl (cI, 12, .inl swf))] : va_W))) (by decide +kernel) rfl (Nat.le_of_ble_eq_true rfl) ?_
  intro p e s m args below meth c A Q ls H hx hb hml hown hts hN hA hK hP hD hS hret hl
  have h := he
  unfold ve_X2_countOfThoseWith at h
  have hl : lv_has ls 2 [(0, .ref sh), (1, .int p1)] := hl
  refine lv_iload_n hx hb dX2_countOfThoseWith_0 rfl (lv_at hl 1 rfl) ?_
  refine lv_if_lt (tgt := 22) hx hb dX2_countOfThoseWith_1 (by decide) (fun c_1 => ?_) (fun c_1 => ?_)
  · have h := h.1 c_1
    refine lv_iconst (v := 0) hx hb dX2_countOfThoseWith_22 (by decide) ?_
    exact hret 0 () _ _ _ _ _ _ h (hP.sub [0, 1] rfl) (hD.sub [0, 1] (by decide) rfl) hS (Nat.le_of_ble_eq_true rfl) (Nat.le_of_ble_eq_true rfl) dX2_countOfThoseWith_23
  · have h := h.2 c_1
    refine lv_iload_n hx hb dX2_countOfThoseWith_4 rfl (lv_at hl 1 rfl) ?_
    refine lv_aload_n hx hb dX2_countOfThoseWith_5 rfl (lv_at hl 0 rfl) ?_
    refine va_get (D := D) (ci := 2) (v := .ref sa) (C := RX2) (T := TX2) (N := 3) hx hb hts nX2_countOfThoseWith_wsX20 hown hK hP 0 rfl rfl 0 (by decide) (hts _ kX2_countOfThoseWith_1) (fun _ h9 => h9) rfl dX2_countOfThoseWith_6 ?_
    refine va_alen hx hb hK hP 1 0 rfl rfl (v := 12) rfl dX2_countOfThoseWith_9 ?_
    refine lv_icmp_ge (tgt := 22) hx hb dX2_countOfThoseWith_10 (by decide) (fun c_2 => ?_) (fun c_2 => ?_)
    · have h := h.1 c_2
      refine lv_iconst (v := 0) hx hb dX2_countOfThoseWith_22 (by decide) ?_
      exact hret 0 () _ _ _ _ _ _ h (hP.sub [0, 1] rfl) (hD.sub [0, 1] (by decide) rfl) hS (Nat.le_of_ble_eq_true rfl) (Nat.le_of_ble_eq_true rfl) dX2_countOfThoseWith_23
    · have h := h.2 c_2
      refine lv_aload_n hx hb dX2_countOfThoseWith_13 rfl (lv_at hl 0 rfl) ?_
      refine va_get (D := D) (ci := 2) (v := .ref sa) (C := RX2) (T := TX2) (N := 3) hx hb hts nX2_countOfThoseWith_wsX20 hown hK hP 0 rfl rfl 0 (by decide) (hts _ kX2_countOfThoseWith_1) (fun _ h9 => h9) rfl dX2_countOfThoseWith_14 ?_
      refine lv_iload_n hx hb dX2_countOfThoseWith_17 rfl (lv_at hl 1 rfl) ?_
      obtain ⟨i_3, h⟩ := h
      refine va_iald hx hb hK hP 1 0 rfl rfl i_3 dX2_countOfThoseWith_18 ?_
      refine lv_goto (tgt := 23) hx hb dX2_countOfThoseWith_19 (by decide) ?_
      exact hret (swf p1.toNatClampNeg) () _ _ _ _ _ _ h (hP.sub [0, 1] rfl) (hD.sub [0, 1] (by decide) rfl) hS (Nat.le_of_ble_eq_true rfl) (Nat.le_of_ble_eq_true rfl) dX2_countOfThoseWith_23
theorem c_X2_countOfThoseWith (l : Launch) (D : va_G) (cI : ClassId) (sh sa : Nat) (sz : Nat) (cnt : Int32) (call : Int32) (swf : Nat → Int32) (p1 : Int32) : Met l yX2_countOfThoseWith wsX2_countOfThoseWith ({ frames := 0, cells := 0, slots := 0, locals := 0 } : Room) (ff_Pc D [(cI, .int)] [.ref sh, .int p1] ([(sh, .inr (2, [.ref sa, .int cnt, .int call])), (sa, .inl (cI, 12, .inl swf))] : va_W) sz) (va_Qi (fun (r : Int32) (u : Unit) => r = (if ¬ p1 < 0 ∧ p1 < 12 then swf p1.toNatClampNeg else 0)) (fun (u : Unit) t => ff_B D [(cI, .int)] (va_A ([(sh, .inr (2, [.ref sa, .int cnt, .int call])), (sa, .inl (cI, 12, .inl swf))] : va_W) sz) [(sh, .inr (2, [.ref sa, .int cnt, .int call])), (sa, .inl (cI, 12, .inl swf))] t) (va_A ([(sh, .inr (2, [.ref sa, .int cnt, .int call])), (sa, .inl (cI, 12, .inl swf))] : va_W) sz)) 0 0 (va_A ([(sh, .inr (2, [.ref sa, .int cnt, .int call])), (sa, .inl (cI, 12, .inl swf))] : va_W) sz) :=
  a_X2_countOfThoseWith l D cI sh sa sz cnt call swf p1 _  (pe_X2_countOfThoseWith cnt call swf p1)
theorem kX2_list_10 : (.initialized RX0 : Cond) ∈ wsX2_list := List.mem_of_getElem? (i := 10) rfl
theorem kX2_list_47 : (.instanceMethod yX0_isShape : Cond) ∈ wsX2_list := List.mem_of_getElem? (i := 47) rfl
theorem kX2_list_48 : (.selects RX0 yX0_isShape yX0_isShape : Cond) ∈ wsX2_list := List.mem_of_getElem? (i := 48) rfl
theorem kX2_list_9 : (.instanceMethod yX0_numberIn : Cond) ∈ wsX2_list := List.mem_of_getElem? (i := 9) rfl
theorem kX2_list_11 : (.selects RX0 yX0_numberIn yX0_numberIn : Cond) ∈ wsX2_list := List.mem_of_getElem? (i := 11) rfl
theorem kX2_list_20 : (.instanceMethod yX0_fieldOf : Cond) ∈ wsX2_list := List.mem_of_getElem? (i := 20) rfl
theorem kX2_list_21 : (.selects RX0 yX0_fieldOf yX0_fieldOf : Cond) ∈ wsX2_list := List.mem_of_getElem? (i := 21) rfl
theorem kX2_list_40 : (.instanceMethod yX0_roomOf : Cond) ∈ wsX2_list := List.mem_of_getElem? (i := 40) rfl
theorem kX2_list_41 : (.selects RX0 yX0_roomOf yX0_roomOf : Cond) ∈ wsX2_list := List.mem_of_getElem? (i := 41) rfl
set_option maxHeartbeats 4000000 in
set_option maxRecDepth 100000 in
theorem a_X2_list (l : Launch) (D : va_G) (cI : ClassId) (sh sa zh za : Nat) (sz : Nat) (cnt : Int32) (call : Int32) (swf : Nat → Int32) (cc : Int32) (ac : Int32) (fc : Int32) (lc : Int32) (f : Nat → Int32) (p2 : Int32) (P : (Int32 × Int32 × (Nat → Int32)) → Prop) (I40 : Int32 → Int32 → Int32 → Int32 → Int32 → Int32 → Int32 → (Nat → Int32) → Prop) (mu40 : Int32 → Int32 → Int32 → Int32 → Int32 → Int32 → Int32 → (Nat → Int32) → Nat) (hv40 : ∀ (x3 : Int32) (x4 : Int32) (x5 : Int32) (x6 : Int32) (x7 : Int32) (cnt' : Int32) (call' : Int32) (swf' : Nat → Int32), I40 x3 x4 x5 x6 x7 cnt' call' swf' → vs_X2_list_40 cnt call swf cc ac fc lc f p2 P (fun (x39 : Int32) (x49 : Int32) (x59 : Int32) (x69 : Int32) (x79 : Int32) (cnt9 : Int32) (call9 : Int32) (swf9 : Nat → Int32) => I40 x39 x49 x59 x69 x79 cnt9 call9 swf9 ∧ mu40 x39 x49 x59 x69 x79 cnt9 call9 swf9 < mu40 x3 x4 x5 x6 x7 cnt' call' swf') x3 x4 x5 x6 x7 cnt' call' swf') (he : ve_X2_list cnt call swf cc ac fc lc f p2 P I40) : Met l yX2_list wsX2_list ({ frames := 4, cells := 0, slots := 0, locals := 85 } : Room) (ff_Pc D [(cI, .int)] [.ref sh, .ref zh, .int p2] ([(sh, .inr (2, [.ref sa, .int cnt, .int call])), (sa, .inl (cI, 12, .inl swf)), (zh, .inr (0, [.ref za, .int cc, .int ac, .int fc, .int lc])), (za, .inl (cI, 10, .inl f))] : va_W) sz) (va_Qv P (fun (u : Int32 × Int32 × (Nat → Int32)) t => ff_B D [(cI, .int)] (va_A ([(sh, .inr (2, [.ref sa, .int cnt, .int call])), (sa, .inl (cI, 12, .inl swf)), (zh, .inr (0, [.ref za, .int cc, .int ac, .int fc, .int lc])), (za, .inl (cI, 10, .inl f))] : va_W) sz) [(sh, .inr (2, [.ref sa, .int (u.1), .int (u.2.1)])), (sa, .inl (cI, 12, .inl (u.2.2))), (zh, .inr (0, [.ref za, .int cc, .int ac, .int fc, .int lc])), (za, .inl (cI, 10, .inl f))] t) (va_A ([(sh, .inr (2, [.ref sa, .int cnt, .int call])), (sa, .inl (cI, 12, .inl swf)), (zh, .inr (0, [.ref za, .int cc, .int ac, .int fc, .int lc])), (za, .inl (cI, 10, .inl f))] : va_W) sz)) 0 0 (va_A ([(sh, .inr (2, [.ref sa, .int cnt, .int call])), (sa, .inl (cI, 12, .inl swf)), (zh, .inr (0, [.ref za, .int cc, .int ac, .int fc, .int lc])), (za, .inl (cI, 10, .inl f))] : va_W) sz) := by
  refine ff_metV (Wf := (fun (u : Int32 × Int32 × (Nat → Int32)) => ([(sh, .inr (2, [.ref sa, .int (u.1), .int (u.2.1)])), (sa, .inl (cI, 12, .inl (u.2.2))), (zh, .inr (0, [.ref za, .int cc, .int ac, .int fc, .int lc])), (za, .inl (cI, 10, .inl f))] : va_W))) (by decide +kernel) rfl (Nat.le_of_ble_eq_true rfl) ?_
  intro p e s m args below meth c A Q ls H hx hb hml hown hin hts hN hA hK hP hD hS hret hl
  have L40 : ∀ (N : Nat) (x3 : Int32) (x4 : Int32) (x5 : Int32) (x6 : Int32) (x7 : Int32) (cnt' : Int32) (call' : Int32) (swf' : Nat → Int32) (H : Heap) (locs : List Loc) (ls : Array Slot), I40 x3 x4 x5 x6 x7 cnt' call' swf' → mu40 x3 x4 x5 x6 x7 cnt' call' swf' < N → va_P D vwCl [(sh, .inr (2, [.ref sa, .int cnt', .int call'])), (sa, .inl (cI, 12, .inl swf')), (zh, .inr (0, [.ref za, .int cc, .int ac, .int fc, .int lc])), (za, .inl (cI, 10, .inl f))] H → va_D A [(sh, .inr (2, [.ref sa, .int cnt', .int call'])), (sa, .inl (cI, 12, .inl swf')), (zh, .inr (0, [.ref za, .int cc, .int ac, .int fc, .int lc])), (za, .inl (cI, 10, .inl f))] → va_S A s.heap H locs → lv_has ls 8 [(0, .ref sh), (1, .ref zh), (2, .int p2), (3, .int x3), (4, .int x4), (5, .int x5), (6, .int x6), (7, .int x7)] → W p l e ({ frames := 4, cells := 0, slots := 0, locals := 85 } : Room) s m args below meth c H locs 0 0 Q (F0 m 40 ls []) := by
    intro N
    induction N with
    | zero => intros; rename_i hz _ _ _ _; exact absurd hz (Nat.not_lt_zero _)
    | succ N ih =>
      intro x3 x4 x5 x6 x7 cnt' call' swf' H locs ls hI hmu hP hD hS hl
      have h := hv40 x3 x4 x5 x6 x7 cnt' call' swf' hI
      unfold vs_X2_list_40 at h
      refine lv_iload hx hb dX2_list_40 (lv_at hl 7 rfl) ?_
      refine lv_sipush (v := 4096) hx hb dX2_list_42 (by decide) ?_
      refine lv_icmp_ge (tgt := 92) hx hb dX2_list_45 (by decide) (fun c_1 => ?_) (fun c_1 => ?_)
      · have h := h.1 c_1
        exact hret (cnt', call', swf') _ _ _ _ _ _ h (hP.sub [0, 1, 2, 3] rfl) (hD.sub [0, 1, 2, 3] (by decide) rfl) hS (Nat.le_of_ble_eq_true rfl) (Nat.le_of_ble_eq_true rfl) dX2_list_92
      · have h := h.2 c_1
        refine lv_aload_n hx hb dX2_list_48 rfl (lv_at hl 1 rfl) ?_
        refine lv_iload hx hb dX2_list_49 (lv_at hl 4 rfl) ?_
        refine lv_iload hx hb dX2_list_51 (lv_at hl 6 rfl) ?_
        refine lv_ior hx hb dX2_list_53 ?_
        refine lv_iload_n hx hb dX2_list_54 rfl (lv_at hl 3 rfl) ?_
        have hPc := hP.sub (ws' := [(zh, .inr (0, [.ref za, .int cc, .int ac, .int fc, .int lc])), (za, .inl (cI, 10, .inl f))]) [2, 3] rfl
        have hDc := hD.sub (ws' := [(zh, .inr (0, [.ref za, .int cc, .int ac, .int fc, .int lc])), (za, .inl (cI, 10, .inl f))]) [2, 3] (by decide) rfl
        refine ff_callI (va_runVN (As := [.int (x4 ||| x6), .int x3]) (rest := []) ⟨hx, hb, hml, hown, hts⟩ (c_X0_isShape l D cI zh za H.size cc ac fc lc f (x4 ||| x6) x3) ⟨va_cnB 2 hts gX2_list_X0_isShape_n37 rfl rfl rfl (ff_nm hN 3 rfl) (hts _ kX2_list_10) (by decide +kernel) ⟨Nat.le_of_ble_eq_true rfl, Nat.le_of_ble_eq_true rfl⟩, (hts _ kX2_list_47), (hts _ kX2_list_48)⟩ (ff_preV (q := (RX0, TX0, 5)) (ci := 0) (q0 := 0) hPc hK hDc hN rfl rfl) rfl rfl hl.1 rfl (lv_room (Nat.le_of_ble_eq_true rfl)) dX2_list_55 ⟨Nat.le_of_ble_eq_true rfl, Nat.le_of_ble_eq_true rfl⟩) hP hD hS hA [2, 3] [0, 1] (wr := [(sh, .inr (2, [.ref sa, .int cnt', .int call'])), (sa, .inl (cI, 12, .inl swf'))]) rfl rfl (by decide) (by decide) (fun r u H locs hw hP hD hS => ?_)
        replace hw := hw.symm
        subst hw
        have hP : va_P D vwCl [(sh, .inr (2, [.ref sa, .int cnt', .int call'])), (sa, .inl (cI, 12, .inl swf')), (zh, .inr (0, [.ref za, .int cc, .int ac, .int fc, .int lc])), (za, .inl (cI, 10, .inl f))] H := hP
        have hD : va_D A [(sh, .inr (2, [.ref sa, .int cnt', .int call'])), (sa, .inl (cI, 12, .inl swf')), (zh, .inr (0, [.ref za, .int cc, .int ac, .int fc, .int lc])), (za, .inl (cI, 10, .inl f))] := hD
        refine lv_if_eq (tgt := 70) hx hb dX2_list_58 (by decide) (fun c_2 => ?_) (fun c_2 => ?_)
        · have h := h.1 c_2
          refine lv_iload hx hb dX2_list_70 (lv_at hl 6 rfl) ?_
          refine lv_iload hx hb dX2_list_72 (lv_at hl 5 rfl) ?_
          refine lv_isub hx hb dX2_list_74 ?_
          refine lv_iload hx hb dX2_list_75 (lv_at hl 5 rfl) ?_
          refine lv_iand hx hb dX2_list_77 ?_
          refine lv_topi (fun y_3 ey_3 => ?_)
          have h := h y_3 ey_3
          refine lv_istore (lv' := [(6, .int y_3), (0, .ref sh), (1, .ref zh), (2, .int p2), (3, .int x3), (4, .int x4), (5, .int x5), (7, .int x7)]) hx hb dX2_list_78 hl (by decide) rfl (fun ls hl => ?_)
          refine lv_iload hx hb dX2_list_80 (lv_at hl 0 rfl) ?_
          refine lv_if_ne (tgt := 86) hx hb dX2_list_82 (by decide) (fun c_4 => ?_) (fun c_4 => ?_)
          · have h := h.2 c_4
            obtain ⟨y_5, ey_5⟩ : ∃ y : Int32, y = x7 + 1 := ⟨_, rfl⟩
            have h := h y_5 ey_5
            refine lv_iinc (v := y_5) (lv' := [(7, .int y_5), (6, .int y_3), (0, .ref sh), (1, .ref zh), (2, .int p2), (3, .int x3), (4, .int x4), (5, .int x5)]) hx hb dX2_list_86 hl (k := 7) rfl (by rw [ey_5]; rfl) (by decide) rfl (fun ls hl => ?_)
            refine lv_goto (tgt := 40) hx hb dX2_list_89 (by decide) ?_
            exact ih _ _ _ _ _ _ _ _ _ _ _ h.1 (Nat.lt_of_lt_of_le h.2 (Nat.le_of_lt_succ hmu)) (hP.sub [0, 1, 2, 3] rfl) (hD.sub [0, 1, 2, 3] (by decide) rfl) hS (lv_sub hl [2, 3, 4, 5, 6, 7, 1, 0] rfl)
          · have h := h.1 c_4
            exact hret (cnt', call', swf') _ _ _ _ _ _ h (hP.sub [0, 1, 2, 3] rfl) (hD.sub [0, 1, 2, 3] (by decide) rfl) hS (Nat.le_of_ble_eq_true rfl) (Nat.le_of_ble_eq_true rfl) dX2_list_85
        · have h := h.2 c_2
          refine lv_aload_n hx hb dX2_list_61 rfl (lv_at hl 0 rfl) ?_
          refine lv_iload hx hb dX2_list_62 (lv_at hl 4 rfl) ?_
          refine lv_iload hx hb dX2_list_64 (lv_at hl 6 rfl) ?_
          refine lv_ior hx hb dX2_list_66 ?_
          have hPc := hP.sub (ws' := [(sh, .inr (2, [.ref sa, .int cnt', .int call'])), (sa, .inl (cI, 12, .inl swf'))]) [0, 1] rfl
          have hDc := hD.sub (ws' := [(sh, .inr (2, [.ref sa, .int cnt', .int call'])), (sa, .inl (cI, 12, .inl swf'))]) [0, 1] (by decide) rfl
          refine ff_callV (va_runV (As := [.int (x4 ||| x6)]) (rest := []) ⟨hx, hb, hml, hown, hts⟩ (c_X2_note l D cI sh sa H.size cnt' call' swf' (x4 ||| x6)) (cwV 1 hts gX2_list_X2_note rfl rfl rfl (by decide +kernel) ⟨Nat.le_of_ble_eq_true rfl, Nat.le_of_ble_eq_true rfl⟩) (ff_preV (q := (RX2, TX2, 3)) (ci := 2) (q0 := 0) hPc hK hDc hN rfl rfl) rfl rfl hl.1 rfl (lv_room (Nat.le_of_ble_eq_true rfl)) dX2_list_67 ⟨Nat.le_of_ble_eq_true rfl, Nat.le_of_ble_eq_true rfl⟩) hP hD hS hA [0, 1] [2, 3] (wr := [(zh, .inr (0, [.ref za, .int cc, .int ac, .int fc, .int lc])), (za, .inl (cI, 10, .inl f))]) rfl rfl (by decide) (by decide) (fun u H locs hw hP hD hS => ?_)
          replace hw := hw.symm
          subst hw
          have hP : va_P D vwCl [(zh, .inr (0, [.ref za, .int cc, .int ac, .int fc, .int lc])), (za, .inl (cI, 10, .inl f)), (sh, .inr (2, [.ref sa, .int (cnt' + 1), .int (if cnt' = 0 then (x4 ||| x6) else call' &&& (x4 ||| x6))])), (sa, .inl (cI, 12, .inl (znt swf' (x4 ||| x6))))] H := hP
          have hD : va_D A [(zh, .inr (0, [.ref za, .int cc, .int ac, .int fc, .int lc])), (za, .inl (cI, 10, .inl f)), (sh, .inr (2, [.ref sa, .int (cnt' + 1), .int (if cnt' = 0 then (x4 ||| x6) else call' &&& (x4 ||| x6))])), (sa, .inl (cI, 12, .inl (znt swf' (x4 ||| x6))))] := hD
          refine lv_iload hx hb dX2_list_70 (lv_at hl 6 rfl) ?_
          refine lv_iload hx hb dX2_list_72 (lv_at hl 5 rfl) ?_
          refine lv_isub hx hb dX2_list_74 ?_
          refine lv_iload hx hb dX2_list_75 (lv_at hl 5 rfl) ?_
          refine lv_iand hx hb dX2_list_77 ?_
          refine lv_topi (fun y_6 ey_6 => ?_)
          have h := h y_6 ey_6
          refine lv_istore (lv' := [(6, .int y_6), (0, .ref sh), (1, .ref zh), (2, .int p2), (3, .int x3), (4, .int x4), (5, .int x5), (7, .int x7)]) hx hb dX2_list_78 hl (by decide) rfl (fun ls hl => ?_)
          refine lv_iload hx hb dX2_list_80 (lv_at hl 0 rfl) ?_
          refine lv_if_ne (tgt := 86) hx hb dX2_list_82 (by decide) (fun c_7 => ?_) (fun c_7 => ?_)
          · have h := h.2 c_7
            obtain ⟨y_8, ey_8⟩ : ∃ y : Int32, y = x7 + 1 := ⟨_, rfl⟩
            have h := h y_8 ey_8
            refine lv_iinc (v := y_8) (lv' := [(7, .int y_8), (6, .int y_6), (0, .ref sh), (1, .ref zh), (2, .int p2), (3, .int x3), (4, .int x4), (5, .int x5)]) hx hb dX2_list_86 hl (k := 7) rfl (by rw [ey_8]; rfl) (by decide) rfl (fun ls hl => ?_)
            refine lv_goto (tgt := 40) hx hb dX2_list_89 (by decide) ?_
            exact ih _ _ _ _ _ _ _ _ _ _ _ h.1 (Nat.lt_of_lt_of_le h.2 (Nat.le_of_lt_succ hmu)) (hP.sub [2, 3, 0, 1] rfl) (hD.sub [2, 3, 0, 1] (by decide) rfl) hS (lv_sub hl [2, 3, 4, 5, 6, 7, 1, 0] rfl)
          · have h := h.1 c_7
            exact hret (cnt' + 1, if cnt' = 0 then (x4 ||| x6) else call' &&& (x4 ||| x6), znt swf' (x4 ||| x6)) _ _ _ _ _ _ h (hP.sub [2, 3, 0, 1] rfl) (hD.sub [2, 3, 0, 1] (by decide) rfl) hS (Nat.le_of_ble_eq_true rfl) (Nat.le_of_ble_eq_true rfl) dX2_list_85
  have h := he
  unfold ve_X2_list at h
  have hl : lv_has ls 8 [(0, .ref sh), (1, .ref zh), (2, .int p2)] := hl
  refine lv_aload_n hx hb dX2_list_0 rfl (lv_at hl 0 rfl) ?_
  have hPc := hP.sub (ws' := [(sh, .inr (2, [.ref sa, .int cnt, .int call])), (sa, .inl (cI, 12, .inl swf))]) [0, 1] rfl
  have hDc := hD.sub (ws' := [(sh, .inr (2, [.ref sa, .int cnt, .int call])), (sa, .inl (cI, 12, .inl swf))]) [0, 1] (by decide) rfl
  refine ff_callV (va_runV (As := []) (rest := []) ⟨hx, hb, hml, hown, hts⟩ (c_X2_forget l D cI sh sa H.size cnt call swf) (cwV 0 hts gX2_list_X2_forget rfl rfl rfl (by decide +kernel) ⟨Nat.le_of_ble_eq_true rfl, Nat.le_of_ble_eq_true rfl⟩) (ff_preV (q := (RX2, TX2, 3)) (ci := 2) (q0 := 0) hPc hK hDc hN rfl rfl) rfl rfl hl.1 rfl (lv_room (Nat.le_of_ble_eq_true rfl)) dX2_list_1 ⟨Nat.le_of_ble_eq_true rfl, Nat.le_of_ble_eq_true rfl⟩) hP hD hS hA [0, 1] [2, 3] (wr := [(zh, .inr (0, [.ref za, .int cc, .int ac, .int fc, .int lc])), (za, .inl (cI, 10, .inl f))]) rfl rfl (by decide) (by decide) (fun u H locs hw hP hD hS => ?_)
  replace hw := hw.symm
  subst hw
  have hP : va_P D vwCl [(zh, .inr (0, [.ref za, .int cc, .int ac, .int fc, .int lc])), (za, .inl (cI, 10, .inl f)), (sh, .inr (2, [.ref sa, .int 0, .int 0])), (sa, .inl (cI, 12, .inl (mz12 swf)))] H := hP
  have hD : va_D A [(zh, .inr (0, [.ref za, .int cc, .int ac, .int fc, .int lc])), (za, .inl (cI, 10, .inl f)), (sh, .inr (2, [.ref sa, .int 0, .int 0])), (sa, .inl (cI, 12, .inl (mz12 swf)))] := hD
  refine lv_aload_n hx hb dX2_list_4 rfl (lv_at hl 1 rfl) ?_
  refine lv_iload_n hx hb dX2_list_5 rfl (lv_at hl 2 rfl) ?_
  have hPc := hP.sub (ws' := [(zh, .inr (0, [.ref za, .int cc, .int ac, .int fc, .int lc])), (za, .inl (cI, 10, .inl f))]) [0, 1] rfl
  have hDc := hD.sub (ws' := [(zh, .inr (0, [.ref za, .int cc, .int ac, .int fc, .int lc])), (za, .inl (cI, 10, .inl f))]) [0, 1] (by decide) rfl
  refine ff_callI (va_runVN (As := [.int p2]) (rest := []) ⟨hx, hb, hml, hown, hts⟩ (c_X0_numberIn l D cI zh za H.size cc ac fc lc f p2) ⟨va_cnB 1 hts gX2_list_X0_numberIn_n25 rfl rfl rfl (ff_nm hN 0 rfl) (hts _ kX2_list_10) (by decide +kernel) ⟨Nat.le_of_ble_eq_true rfl, Nat.le_of_ble_eq_true rfl⟩, (hts _ kX2_list_9), (hts _ kX2_list_11)⟩ (ff_preV (q := (RX0, TX0, 5)) (ci := 0) (q0 := 0) hPc hK hDc hN rfl rfl) rfl rfl hl.1 rfl (lv_room (Nat.le_of_ble_eq_true rfl)) dX2_list_6 ⟨Nat.le_of_ble_eq_true rfl, Nat.le_of_ble_eq_true rfl⟩) hP hD hS hA [0, 1] [2, 3] (wr := [(sh, .inr (2, [.ref sa, .int 0, .int 0])), (sa, .inl (cI, 12, .inl (mz12 swf)))]) rfl rfl (by decide) (by decide) (fun r u H locs hw hP hD hS => ?_)
  replace hw := hw.symm
  subst hw
  have hP : va_P D vwCl [(sh, .inr (2, [.ref sa, .int 0, .int 0])), (sa, .inl (cI, 12, .inl (mz12 swf))), (zh, .inr (0, [.ref za, .int cc, .int ac, .int fc, .int lc])), (za, .inl (cI, 10, .inl f))] H := hP
  have hD : va_D A [(sh, .inr (2, [.ref sa, .int 0, .int 0])), (sa, .inl (cI, 12, .inl (mz12 swf))), (zh, .inr (0, [.ref za, .int cc, .int ac, .int fc, .int lc])), (za, .inl (cI, 10, .inl f))] := hD
  refine lv_topi (fun y_9 ey_9 => ?_)
  have h := h y_9 ey_9
  refine lv_istore_n (lv' := [(3, .int y_9), (0, .ref sh), (1, .ref zh), (2, .int p2)]) hx hb dX2_list_9 rfl hl (by decide) rfl (fun ls hl => ?_)
  refine lv_iload_n hx hb dX2_list_10 rfl (lv_at hl 0 rfl) ?_
  refine lv_if_ne (tgt := 15) hx hb dX2_list_11 (by decide) (fun c_10 => ?_) (fun c_10 => ?_)
  · have h := h.2 c_10
    refine lv_aload_n hx hb dX2_list_15 rfl (lv_at hl 2 rfl) ?_
    refine lv_iload_n hx hb dX2_list_16 rfl (lv_at hl 3 rfl) ?_
    have hPc := hP.sub (ws' := [(zh, .inr (0, [.ref za, .int cc, .int ac, .int fc, .int lc])), (za, .inl (cI, 10, .inl f))]) [2, 3] rfl
    have hDc := hD.sub (ws' := [(zh, .inr (0, [.ref za, .int cc, .int ac, .int fc, .int lc])), (za, .inl (cI, 10, .inl f))]) [2, 3] (by decide) rfl
    refine ff_callI (va_runVN (As := [.int p2]) (rest := []) ⟨hx, hb, hml, hown, hts⟩ (c_X0_fieldOf l D cI zh za H.size cc ac fc lc f p2) ⟨va_cnB 1 hts gX2_list_X0_fieldOf_n31 rfl rfl rfl (ff_nm hN 1 rfl) (hts _ kX2_list_10) (by decide +kernel) ⟨Nat.le_of_ble_eq_true rfl, Nat.le_of_ble_eq_true rfl⟩, (hts _ kX2_list_20), (hts _ kX2_list_21)⟩ (ff_preV (q := (RX0, TX0, 5)) (ci := 0) (q0 := 0) hPc hK hDc hN rfl rfl) rfl rfl hl.1 rfl (lv_room (Nat.le_of_ble_eq_true rfl)) dX2_list_17 ⟨Nat.le_of_ble_eq_true rfl, Nat.le_of_ble_eq_true rfl⟩) hP hD hS hA [2, 3] [0, 1] (wr := [(sh, .inr (2, [.ref sa, .int 0, .int 0])), (sa, .inl (cI, 12, .inl (mz12 swf)))]) rfl rfl (by decide) (by decide) (fun r u H locs hw hP hD hS => ?_)
    replace hw := hw.symm
    subst hw
    have hP : va_P D vwCl [(sh, .inr (2, [.ref sa, .int 0, .int 0])), (sa, .inl (cI, 12, .inl (mz12 swf))), (zh, .inr (0, [.ref za, .int cc, .int ac, .int fc, .int lc])), (za, .inl (cI, 10, .inl f))] H := hP
    have hD : va_D A [(sh, .inr (2, [.ref sa, .int 0, .int 0])), (sa, .inl (cI, 12, .inl (mz12 swf))), (zh, .inr (0, [.ref za, .int cc, .int ac, .int fc, .int lc])), (za, .inl (cI, 10, .inl f))] := hD
    refine lv_topi (fun y_11 ey_11 => ?_)
    have h := h y_11 ey_11
    refine lv_istore (lv' := [(4, .int y_11), (3, .int y_9), (0, .ref sh), (1, .ref zh), (2, .int p2)]) hx hb dX2_list_20 hl (by decide) rfl (fun ls hl => ?_)
    refine lv_aload_n hx hb dX2_list_22 rfl (lv_at hl 3 rfl) ?_
    refine lv_iload_n hx hb dX2_list_23 rfl (lv_at hl 4 rfl) ?_
    have hPc := hP.sub (ws' := [(zh, .inr (0, [.ref za, .int cc, .int ac, .int fc, .int lc])), (za, .inl (cI, 10, .inl f))]) [2, 3] rfl
    have hDc := hD.sub (ws' := [(zh, .inr (0, [.ref za, .int cc, .int ac, .int fc, .int lc])), (za, .inl (cI, 10, .inl f))]) [2, 3] (by decide) rfl
    refine ff_callI (va_runVN (As := [.int p2]) (rest := []) ⟨hx, hb, hml, hown, hts⟩ (c_X0_roomOf l D cI zh za H.size cc ac fc lc f p2) ⟨va_cnB 1 hts gX2_list_X0_roomOf_n34 rfl rfl rfl (ff_nm hN 2 rfl) (hts _ kX2_list_10) (by decide +kernel) ⟨Nat.le_of_ble_eq_true rfl, Nat.le_of_ble_eq_true rfl⟩, (hts _ kX2_list_40), (hts _ kX2_list_41)⟩ (ff_preV (q := (RX0, TX0, 5)) (ci := 0) (q0 := 0) hPc hK hDc hN rfl rfl) rfl rfl hl.1 rfl (lv_room (Nat.le_of_ble_eq_true rfl)) dX2_list_24 ⟨Nat.le_of_ble_eq_true rfl, Nat.le_of_ble_eq_true rfl⟩) hP hD hS hA [2, 3] [0, 1] (wr := [(sh, .inr (2, [.ref sa, .int 0, .int 0])), (sa, .inl (cI, 12, .inl (mz12 swf)))]) rfl rfl (by decide) (by decide) (fun r u H locs hw hP hD hS => ?_)
    replace hw := hw.symm
    subst hw
    have hP : va_P D vwCl [(sh, .inr (2, [.ref sa, .int 0, .int 0])), (sa, .inl (cI, 12, .inl (mz12 swf))), (zh, .inr (0, [.ref za, .int cc, .int ac, .int fc, .int lc])), (za, .inl (cI, 10, .inl f))] H := hP
    have hD : va_D A [(sh, .inr (2, [.ref sa, .int 0, .int 0])), (sa, .inl (cI, 12, .inl (mz12 swf))), (zh, .inr (0, [.ref za, .int cc, .int ac, .int fc, .int lc])), (za, .inl (cI, 10, .inl f))] := hD
    refine lv_iload hx hb dX2_list_27 (lv_at hl 0 rfl) ?_
    refine lv_iconst (v := (-1)) hx hb dX2_list_29 (by decide) ?_
    refine lv_ixor hx hb dX2_list_30 ?_
    refine lv_iand hx hb dX2_list_31 ?_
    refine lv_topi (fun y_12 ey_12 => ?_)
    have h := h y_12 ey_12
    refine lv_istore (lv' := [(5, .int y_12), (4, .int y_11), (3, .int y_9), (0, .ref sh), (1, .ref zh), (2, .int p2)]) hx hb dX2_list_32 hl (by decide) rfl (fun ls hl => ?_)
    refine lv_iconst (v := 0) hx hb dX2_list_34 (by decide) ?_
    refine lv_istore (lv' := [(6, .int 0), (5, .int y_12), (4, .int y_11), (3, .int y_9), (0, .ref sh), (1, .ref zh), (2, .int p2)]) hx hb dX2_list_35 hl (by decide) rfl (fun ls hl => ?_)
    refine lv_iconst (v := 0) hx hb dX2_list_37 (by decide) ?_
    refine lv_istore (lv' := [(7, .int 0), (6, .int 0), (5, .int y_12), (4, .int y_11), (3, .int y_9), (0, .ref sh), (1, .ref zh), (2, .int p2)]) hx hb dX2_list_38 hl (by decide) rfl (fun ls hl => ?_)
    exact L40 _ _ _ _ _ _ _ _ _ _ _ _ h (Nat.lt_succ_self _) (hP.sub [0, 1, 2, 3] rfl) (hD.sub [0, 1, 2, 3] (by decide) rfl) hS (lv_sub hl [5, 6, 7, 4, 3, 2, 1, 0] rfl)
  · have h := h.1 c_10
    exact hret (0, 0, mz12 swf) _ _ _ _ _ _ h (hP.sub [0, 1, 2, 3] rfl) (hD.sub [0, 1, 2, 3] (by decide) rfl) hS (Nat.le_of_ble_eq_true rfl) (Nat.le_of_ble_eq_true rfl) dX2_list_14
theorem c_X2_list (l : Launch) (D : va_G) (cI : ClassId) (sh sa zh za : Nat) (sz : Nat) (cnt : Int32) (call : Int32) (swf : Nat → Int32) (cc : Int32) (ac : Int32) (fc : Int32) (lc : Int32) (f : Nat → Int32) (p2 : Int32) : Met l yX2_list wsX2_list ({ frames := 4, cells := 0, slots := 0, locals := 85 } : Room) (ff_Pc D [(cI, .int)] [.ref sh, .ref zh, .int p2] ([(sh, .inr (2, [.ref sa, .int cnt, .int call])), (sa, .inl (cI, 12, .inl swf)), (zh, .inr (0, [.ref za, .int cc, .int ac, .int fc, .int lc])), (za, .inl (cI, 10, .inl f))] : va_W) sz) (va_Qv (fun (u : Int32 × Int32 × (Nat → Int32)) => u = ((zli cc ac fc lc f p2 swf).1, (zli cc ac fc lc f p2 swf).2.1, (zli cc ac fc lc f p2 swf).2.2)) (fun (u : Int32 × Int32 × (Nat → Int32)) t => ff_B D [(cI, .int)] (va_A ([(sh, .inr (2, [.ref sa, .int cnt, .int call])), (sa, .inl (cI, 12, .inl swf)), (zh, .inr (0, [.ref za, .int cc, .int ac, .int fc, .int lc])), (za, .inl (cI, 10, .inl f))] : va_W) sz) [(sh, .inr (2, [.ref sa, .int (u.1), .int (u.2.1)])), (sa, .inl (cI, 12, .inl (u.2.2))), (zh, .inr (0, [.ref za, .int cc, .int ac, .int fc, .int lc])), (za, .inl (cI, 10, .inl f))] t) (va_A ([(sh, .inr (2, [.ref sa, .int cnt, .int call])), (sa, .inl (cI, 12, .inl swf)), (zh, .inr (0, [.ref za, .int cc, .int ac, .int fc, .int lc])), (za, .inl (cI, 10, .inl f))] : va_W) sz)) 0 0 (va_A ([(sh, .inr (2, [.ref sa, .int cnt, .int call])), (sa, .inl (cI, 12, .inl swf)), (zh, .inr (0, [.ref za, .int cc, .int ac, .int fc, .int lc])), (za, .inl (cI, 10, .inl f))] : va_W) sz) :=
  a_X2_list l D cI sh sa zh za sz cnt call swf cc ac fc lc f p2 _ (I_X2_list_40 cnt call swf cc ac fc lc f p2) (mu_X2_list_40 cnt call swf cc ac fc lc f p2) (pl_X2_list_40 cnt call swf cc ac fc lc f p2) (pe_X2_list cnt call swf cc ac fc lc f p2)
theorem kX3_countSolutions_2 : (.initialized RX0 : Cond) ∈ wsX3_countSolutions := List.mem_of_getElem? (i := 2) rfl
theorem kX3_countSolutions_23 : (.instanceMethod yX0_leavesEnough : Cond) ∈ wsX3_countSolutions := List.mem_of_getElem? (i := 23) rfl
theorem kX3_countSolutions_24 : (.selects RX0 yX0_leavesEnough yX0_leavesEnough : Cond) ∈ wsX3_countSolutions := List.mem_of_getElem? (i := 24) rfl
theorem kX3_countSolutions_38 : (.instanceMethod yX0_canTake : Cond) ∈ wsX3_countSolutions := List.mem_of_getElem? (i := 38) rfl
theorem kX3_countSolutions_39 : (.selects RX0 yX0_canTake yX0_canTake : Cond) ∈ wsX3_countSolutions := List.mem_of_getElem? (i := 39) rfl
theorem kX3_countSolutions_42 : (.instanceMethod yX0_write : Cond) ∈ wsX3_countSolutions := List.mem_of_getElem? (i := 42) rfl
theorem kX3_countSolutions_43 : (.selects RX0 yX0_write yX0_write : Cond) ∈ wsX3_countSolutions := List.mem_of_getElem? (i := 43) rfl
theorem kX3_countSolutions_1 : (.instanceMethod yX0_cellCount : Cond) ∈ wsX3_countSolutions := List.mem_of_getElem? (i := 1) rfl
theorem kX3_countSolutions_3 : (.selects RX0 yX0_cellCount yX0_cellCount : Cond) ∈ wsX3_countSolutions := List.mem_of_getElem? (i := 3) rfl
theorem kX3_countSolutions_13 : (.instanceMethod yX0_numberIn : Cond) ∈ wsX3_countSolutions := List.mem_of_getElem? (i := 13) rfl
theorem kX3_countSolutions_14 : (.selects RX0 yX0_numberIn yX0_numberIn : Cond) ∈ wsX3_countSolutions := List.mem_of_getElem? (i := 14) rfl
set_option maxHeartbeats 4000000 in
set_option maxRecDepth 100000 in
theorem a_X3_countSolutions (l : Launch) (D : va_G) (cI : ClassId) (zh za : Nat) (sz : Nat) (cc : Int32) (ac : Int32) (fc : Int32) (lc : Int32) (f : Nat → Int32) (p1 : Int32) (p2 : Int32) (d : Nat) (hrec : ∀ (zh za : Nat) (sz : Nat) (cc : Int32) (ac : Int32) (fc : Int32) (lc : Int32) (f : Nat → Int32) (p1 : Int32) (p2 : Int32), (zrp ac f p1 p2 d) → Met l yX3_countSolutions wsX3_countSolutions (ff_rm d) (ff_Pc D [(cI, .int)] [.ref zh, .int p1, .int p2] ([(zh, .inr (0, [.ref za, .int cc, .int ac, .int fc, .int lc])), (za, .inl (cI, 10, .inl f))] : va_W) sz) (va_Qi (fun (r : Int32) (u : (Nat → Int32)) => r = zcs cc ac fc lc f p1 p2 ∧ u = (f)) (fun (u : (Nat → Int32)) t => ff_B D [(cI, .int)] (va_A ([(zh, .inr (0, [.ref za, .int cc, .int ac, .int fc, .int lc])), (za, .inl (cI, 10, .inl f))] : va_W) sz) [(zh, .inr (0, [.ref za, .int cc, .int ac, .int fc, .int lc])), (za, .inl (cI, 10, .inl u))] t) (va_A ([(zh, .inr (0, [.ref za, .int cc, .int ac, .int fc, .int lc])), (za, .inl (cI, 10, .inl f))] : va_W) sz)) 0 0 (va_A ([(zh, .inr (0, [.ref za, .int cc, .int ac, .int fc, .int lc])), (za, .inl (cI, 10, .inl f))] : va_W) sz)) (P : Int32 → ((Nat → Int32)) → Prop) (I2 : Int32 → (Nat → Int32) → Prop) (mu2 : Int32 → (Nat → Int32) → Nat) (I40 : Int32 → Int32 → Int32 → (Nat → Int32) → Prop) (mu40 : Int32 → Int32 → Int32 → (Nat → Int32) → Nat) (hv2 : ∀ (x3 : Int32) (f' : Nat → Int32), I2 x3 f' → vs_X3_countSolutions_2 cc ac fc lc f p1 p2 d P (fun (x39 : Int32) (f9 : Nat → Int32) => I2 x39 f9 ∧ mu2 x39 f9 < mu2 x3 f') I40 x3 f') (hv40 : ∀ (x3 : Int32) (x4 : Int32) (x5 : Int32) (f' : Nat → Int32), I40 x3 x4 x5 f' → vs_X3_countSolutions_40 cc ac fc lc f p1 p2 d P I2 (fun (x39 : Int32) (x49 : Int32) (x59 : Int32) (f9 : Nat → Int32) => I40 x39 x49 x59 f9 ∧ mu40 x39 x49 x59 f9 < mu40 x3 x4 x5 f') x3 x4 x5 f') (he : ve_X3_countSolutions cc ac fc lc f p1 p2 d P I2 I40) : Met l yX3_countSolutions wsX3_countSolutions (ff_rm (d + 1)) (ff_Pc D [(cI, .int)] [.ref zh, .int p1, .int p2] ([(zh, .inr (0, [.ref za, .int cc, .int ac, .int fc, .int lc])), (za, .inl (cI, 10, .inl f))] : va_W) sz) (va_Qi P (fun (u : (Nat → Int32)) t => ff_B D [(cI, .int)] (va_A ([(zh, .inr (0, [.ref za, .int cc, .int ac, .int fc, .int lc])), (za, .inl (cI, 10, .inl f))] : va_W) sz) [(zh, .inr (0, [.ref za, .int cc, .int ac, .int fc, .int lc])), (za, .inl (cI, 10, .inl u))] t) (va_A ([(zh, .inr (0, [.ref za, .int cc, .int ac, .int fc, .int lc])), (za, .inl (cI, 10, .inl f))] : va_W) sz)) 0 0 (va_A ([(zh, .inr (0, [.ref za, .int cc, .int ac, .int fc, .int lc])), (za, .inl (cI, 10, .inl f))] : va_W) sz) := by
  refine ff_metI (Wf := (fun (u : (Nat → Int32)) => ([(zh, .inr (0, [.ref za, .int cc, .int ac, .int fc, .int lc])), (za, .inl (cI, 10, .inl u))] : va_W))) (by decide +kernel) rfl (Nat.le_of_ble_eq_true rfl) ?_
  intro p e s m args below meth c A Q ls H hx hb hml hown hts hN hA hK hP hD hS hret hl
  have L40 : ∀ (N : Nat) (x3 : Int32) (x4 : Int32) (x5 : Int32) (f' : Nat → Int32) (H : Heap) (locs : List Loc) (ls : Array Slot), I40 x3 x4 x5 f' → mu40 x3 x4 x5 f' < N → va_P D vwCl [(zh, .inr (0, [.ref za, .int cc, .int ac, .int fc, .int lc])), (za, .inl (cI, 10, .inl f'))] H → va_D A [(zh, .inr (0, [.ref za, .int cc, .int ac, .int fc, .int lc])), (za, .inl (cI, 10, .inl f'))] → va_S A s.heap H locs → lv_has ls 6 [(0, .ref zh), (1, .int p1), (2, .int p2), (3, .int x3), (4, .int x4), (5, .int x5)] → W p l e (ff_rm (d + 1)) s m args below meth c H locs 0 0 Q (F0 m 40 ls []) := by
    intro N
    induction N with
    | zero => intros; rename_i hz _ _ _ _; exact absurd hz (Nat.not_lt_zero _)
    | succ N ih =>
      intro x3 x4 x5 f' H locs ls hI hmu hP hD hS hl
      have h := hv40 x3 x4 x5 f' hI
      unfold vs_X3_countSolutions_40 at h
      refine lv_iload hx hb dX3_countSolutions_40 (lv_at hl 5 rfl) ?_
      refine lv_bipush (v := 9) hx hb dX3_countSolutions_42 (by decide) ?_
      refine lv_icmp_gt (tgt := 107) hx hb dX3_countSolutions_44 (by decide) (fun c_1 => ?_) (fun c_1 => ?_)
      · have h := h.1 c_1
        refine lv_iload hx hb dX3_countSolutions_107 (lv_at hl 4 rfl) ?_
        exact hret x4 (f') _ _ _ _ _ _ h (hP.sub [0, 1] rfl) (hD.sub [0, 1] (by decide) rfl) hS (Nat.le_of_ble_eq_true rfl) (Nat.le_of_ble_eq_true rfl) dX3_countSolutions_109
      · have h := h.2 c_1
        refine lv_iload hx hb dX3_countSolutions_47 (lv_at hl 4 rfl) ?_
        refine lv_iload_n hx hb dX3_countSolutions_49 rfl (lv_at hl 2 rfl) ?_
        refine lv_icmp_ge (tgt := 107) hx hb dX3_countSolutions_50 (by decide) (fun c_2 => ?_) (fun c_2 => ?_)
        · have h := h.1 c_2
          refine lv_iload hx hb dX3_countSolutions_107 (lv_at hl 4 rfl) ?_
          exact hret x4 (f') _ _ _ _ _ _ h (hP.sub [0, 1] rfl) (hD.sub [0, 1] (by decide) rfl) hS (Nat.le_of_ble_eq_true rfl) (Nat.le_of_ble_eq_true rfl) dX3_countSolutions_109
        · have h := h.2 c_2
          refine lv_aload_n hx hb dX3_countSolutions_53 rfl (lv_at hl 0 rfl) ?_
          refine lv_iload hx hb dX3_countSolutions_54 (lv_at hl 5 rfl) ?_
          have hPc := hP.sub (ws' := [(zh, .inr (0, [.ref za, .int cc, .int ac, .int fc, .int lc])), (za, .inl (cI, 10, .inl f'))]) [0, 1] rfl
          have hDc := hD.sub (ws' := [(zh, .inr (0, [.ref za, .int cc, .int ac, .int fc, .int lc])), (za, .inl (cI, 10, .inl f'))]) [0, 1] (by decide) rfl
          refine ff_callI (va_runVN (As := [.int x5]) (rest := []) ⟨hx, hb, hml, hown, hts⟩ (c_X0_leavesEnough l D cI zh za H.size cc ac fc lc f' x5) ⟨va_cnB 1 hts gX3_countSolutions_X0_leavesEnough_n25 rfl rfl rfl (ff_nm hN 7 rfl) (hts _ kX3_countSolutions_2) (by decide +kernel) ⟨ff_fr (by decide), ff_lo (by decide)⟩, (hts _ kX3_countSolutions_23), (hts _ kX3_countSolutions_24)⟩ (ff_preV (q := (RX0, TX0, 5)) (ci := 0) (q0 := 0) hPc hK hDc hN rfl rfl) rfl rfl hl.1 rfl (lv_room (Nat.le_of_ble_eq_true rfl)) dX3_countSolutions_56 ⟨Nat.le_of_ble_eq_true rfl, Nat.le_of_ble_eq_true rfl⟩) hP hD hS hA [0, 1] [] (wr := []) rfl rfl (by decide) (by decide) (fun r u H locs hw hP hD hS => ?_)
          replace hw := hw.symm
          subst hw
          have hP : va_P D vwCl [(zh, .inr (0, [.ref za, .int cc, .int ac, .int fc, .int lc])), (za, .inl (cI, 10, .inl f'))] H := hP
          have hD : va_D A [(zh, .inr (0, [.ref za, .int cc, .int ac, .int fc, .int lc])), (za, .inl (cI, 10, .inl f'))] := hD
          refine lv_if_eq (tgt := 101) hx hb dX3_countSolutions_59 (by decide) (fun c_3 => ?_) (fun c_3 => ?_)
          · have h := h.1 c_3
            obtain ⟨y_4, ey_4⟩ : ∃ y : Int32, y = x5 + 1 := ⟨_, rfl⟩
            have h := h y_4 ey_4
            refine lv_iinc (v := y_4) (lv' := [(5, .int y_4), (0, .ref zh), (1, .int p1), (2, .int p2), (3, .int x3), (4, .int x4)]) hx hb dX3_countSolutions_101 hl (k := 5) rfl (by rw [ey_4]; rfl) (by decide) rfl (fun ls hl => ?_)
            refine lv_goto (tgt := 40) hx hb dX3_countSolutions_104 (by decide) ?_
            exact ih _ _ _ _ _ _ _ h.1 (Nat.lt_of_lt_of_le h.2 (Nat.le_of_lt_succ hmu)) (hP.sub [0, 1] rfl) (hD.sub [0, 1] (by decide) rfl) hS (lv_sub hl [1, 2, 3, 4, 5, 0] rfl)
          · have h := h.2 c_3
            refine lv_aload_n hx hb dX3_countSolutions_62 rfl (lv_at hl 0 rfl) ?_
            refine lv_iload_n hx hb dX3_countSolutions_63 rfl (lv_at hl 3 rfl) ?_
            refine lv_iload hx hb dX3_countSolutions_64 (lv_at hl 5 rfl) ?_
            have hPc := hP.sub (ws' := [(zh, .inr (0, [.ref za, .int cc, .int ac, .int fc, .int lc])), (za, .inl (cI, 10, .inl f'))]) [0, 1] rfl
            have hDc := hD.sub (ws' := [(zh, .inr (0, [.ref za, .int cc, .int ac, .int fc, .int lc])), (za, .inl (cI, 10, .inl f'))]) [0, 1] (by decide) rfl
            refine ff_callI (va_runVN (As := [.int x3, .int x5]) (rest := []) ⟨hx, hb, hml, hown, hts⟩ (c_X0_canTake l D cI zh za H.size cc ac fc lc f' x3 x5) ⟨va_cnB 2 hts gX3_countSolutions_X0_canTake_n29 rfl rfl rfl (ff_nm hN 8 rfl) (hts _ kX3_countSolutions_2) (by decide +kernel) ⟨ff_fr (by decide), ff_lo (by decide)⟩, (hts _ kX3_countSolutions_38), (hts _ kX3_countSolutions_39)⟩ (ff_preV (q := (RX0, TX0, 5)) (ci := 0) (q0 := 0) hPc hK hDc hN rfl rfl) rfl rfl hl.1 rfl (lv_room (Nat.le_of_ble_eq_true rfl)) dX3_countSolutions_66 ⟨Nat.le_of_ble_eq_true rfl, Nat.le_of_ble_eq_true rfl⟩) hP hD hS hA [0, 1] [] (wr := []) rfl rfl (by decide) (by decide) (fun r u H locs hw hP hD hS => ?_)
            obtain ⟨e0_w, e1_w⟩ := hw
            replace e0_w := e0_w.symm
            subst e0_w
            replace e1_w := e1_w.symm
            subst e1_w
            have hP : va_P D vwCl [(zh, .inr (0, [.ref za, .int cc, .int ac, .int fc, .int lc])), (za, .inl (cI, 10, .inl (zctf f' x3 x5)))] H := hP
            have hD : va_D A [(zh, .inr (0, [.ref za, .int cc, .int ac, .int fc, .int lc])), (za, .inl (cI, 10, .inl (zctf f' x3 x5)))] := hD
            refine lv_if_eq (tgt := 101) hx hb dX3_countSolutions_69 (by decide) (fun c_5 => ?_) (fun c_5 => ?_)
            · have h := h.1 c_5
              obtain ⟨y_6, ey_6⟩ : ∃ y : Int32, y = x5 + 1 := ⟨_, rfl⟩
              have h := h y_6 ey_6
              refine lv_iinc (v := y_6) (lv' := [(5, .int y_6), (0, .ref zh), (1, .int p1), (2, .int p2), (3, .int x3), (4, .int x4)]) hx hb dX3_countSolutions_101 hl (k := 5) rfl (by rw [ey_6]; rfl) (by decide) rfl (fun ls hl => ?_)
              refine lv_goto (tgt := 40) hx hb dX3_countSolutions_104 (by decide) ?_
              exact ih _ _ _ _ _ _ _ h.1 (Nat.lt_of_lt_of_le h.2 (Nat.le_of_lt_succ hmu)) (hP.sub [0, 1] rfl) (hD.sub [0, 1] (by decide) rfl) hS (lv_sub hl [1, 2, 3, 4, 5, 0] rfl)
            · have h := h.2 c_5
              refine lv_aload_n hx hb dX3_countSolutions_72 rfl (lv_at hl 0 rfl) ?_
              refine lv_iload_n hx hb dX3_countSolutions_73 rfl (lv_at hl 3 rfl) ?_
              refine lv_iload hx hb dX3_countSolutions_74 (lv_at hl 5 rfl) ?_
              have hPc := hP.sub (ws' := [(zh, .inr (0, [.ref za, .int cc, .int ac, .int fc, .int lc])), (za, .inl (cI, 10, .inl (zctf f' x3 x5)))]) [0, 1] rfl
              have hDc := hD.sub (ws' := [(zh, .inr (0, [.ref za, .int cc, .int ac, .int fc, .int lc])), (za, .inl (cI, 10, .inl (zctf f' x3 x5)))]) [0, 1] (by decide) rfl
              refine ff_callV (va_runVN (As := [.int x3, .int x5]) (rest := []) ⟨hx, hb, hml, hown, hts⟩ (c_X0_write l D cI zh za H.size cc ac fc lc (zctf f' x3 x5) x3 x5) ⟨va_cnB 2 hts gX3_countSolutions_X0_write_n33 rfl rfl rfl (ff_nm hN 9 rfl) (hts _ kX3_countSolutions_2) (by decide +kernel) ⟨ff_fr (by decide), ff_lo (by decide)⟩, (hts _ kX3_countSolutions_42), (hts _ kX3_countSolutions_43)⟩ (ff_preV (q := (RX0, TX0, 5)) (ci := 0) (q0 := 0) hPc hK hDc hN rfl rfl) rfl rfl hl.1 rfl (lv_room (Nat.le_of_ble_eq_true rfl)) dX3_countSolutions_76 ⟨Nat.le_of_ble_eq_true rfl, Nat.le_of_ble_eq_true rfl⟩) hP hD hS hA [0, 1] [] (wr := []) rfl rfl (by decide) (by decide) (fun u H locs hw hP hD hS => ?_)
              replace hw := hw.symm
              subst hw
              have hP : va_P D vwCl [(zh, .inr (0, [.ref za, .int cc, .int ac, .int fc, .int lc])), (za, .inl (cI, 10, .inl (zwr (zctf f' x3 x5) x3 x5)))] H := hP
              have hD : va_D A [(zh, .inr (0, [.ref za, .int cc, .int ac, .int fc, .int lc])), (za, .inl (cI, 10, .inl (zwr (zctf f' x3 x5) x3 x5)))] := hD
              refine lv_iload hx hb dX3_countSolutions_79 (lv_at hl 4 rfl) ?_
              refine lv_aload_n hx hb dX3_countSolutions_81 rfl (lv_at hl 0 rfl) ?_
              refine lv_iload_n hx hb dX3_countSolutions_82 rfl (lv_at hl 3 rfl) ?_
              refine lv_iconst (v := 1) hx hb dX3_countSolutions_83 (by decide) ?_
              refine lv_iadd hx hb dX3_countSolutions_84 ?_
              refine lv_iload_n hx hb dX3_countSolutions_85 rfl (lv_at hl 2 rfl) ?_
              refine lv_iload hx hb dX3_countSolutions_86 (lv_at hl 4 rfl) ?_
              refine lv_isub hx hb dX3_countSolutions_88 ?_
              obtain ⟨p_7, h⟩ := h
              have hPc := hP.sub (ws' := [(zh, .inr (0, [.ref za, .int cc, .int ac, .int fc, .int lc])), (za, .inl (cI, 10, .inl (zwr (zctf f' x3 x5) x3 x5)))]) [0, 1] rfl
              have hDc := hD.sub (ws' := [(zh, .inr (0, [.ref za, .int cc, .int ac, .int fc, .int lc])), (za, .inl (cI, 10, .inl (zwr (zctf f' x3 x5) x3 x5)))]) [0, 1] (by decide) rfl
              refine ff_callI (va_runS (As := [.ref zh, .int (x3 + 1), .int (p2 - x4)]) (rest := [.int x4]) ⟨hx, hb, hml, hown, hts⟩ (hrec zh za H.size cc ac fc lc (zwr (zctf f' x3 x5) x3 x5) (x3 + 1) (p2 - x4) p_7) (va_cwS 3 hts gX3_countSolutions_X3_countSolutions rfl rfl rfl (by decide +kernel) ⟨ff_frs, ff_los (by decide)⟩) (ff_preS hPc hK hDc hN) rfl rfl hl.1 rfl (lv_room (Nat.le_of_ble_eq_true rfl)) dX3_countSolutions_89 ⟨Nat.le_of_ble_eq_true rfl, Nat.le_of_ble_eq_true rfl⟩) hP hD hS hA [0, 1] [] (wr := []) rfl rfl (by decide) (by decide) (fun r u H locs hw hP hD hS => ?_)
              obtain ⟨e0_w, e1_w⟩ := hw
              replace e0_w := e0_w.symm
              subst e0_w
              replace e1_w := e1_w.symm
              subst e1_w
              have hP : va_P D vwCl [(zh, .inr (0, [.ref za, .int cc, .int ac, .int fc, .int lc])), (za, .inl (cI, 10, .inl (zwr (zctf f' x3 x5) x3 x5)))] H := hP
              have hD : va_D A [(zh, .inr (0, [.ref za, .int cc, .int ac, .int fc, .int lc])), (za, .inl (cI, 10, .inl (zwr (zctf f' x3 x5) x3 x5)))] := hD
              refine lv_iadd hx hb dX3_countSolutions_92 ?_
              refine lv_topi (fun y_8 ey_8 => ?_)
              have h := h y_8 ey_8
              refine lv_istore (lv' := [(4, .int y_8), (0, .ref zh), (1, .int p1), (2, .int p2), (3, .int x3), (5, .int x5)]) hx hb dX3_countSolutions_93 hl (by decide) rfl (fun ls hl => ?_)
              refine lv_aload_n hx hb dX3_countSolutions_95 rfl (lv_at hl 1 rfl) ?_
              refine lv_iload_n hx hb dX3_countSolutions_96 rfl (lv_at hl 4 rfl) ?_
              refine lv_iconst (v := 0) hx hb dX3_countSolutions_97 (by decide) ?_
              have hPc := hP.sub (ws' := [(zh, .inr (0, [.ref za, .int cc, .int ac, .int fc, .int lc])), (za, .inl (cI, 10, .inl (zwr (zctf f' x3 x5) x3 x5)))]) [0, 1] rfl
              have hDc := hD.sub (ws' := [(zh, .inr (0, [.ref za, .int cc, .int ac, .int fc, .int lc])), (za, .inl (cI, 10, .inl (zwr (zctf f' x3 x5) x3 x5)))]) [0, 1] (by decide) rfl
              refine ff_callV (va_runVN (As := [.int x3, .int 0]) (rest := []) ⟨hx, hb, hml, hown, hts⟩ (c_X0_write l D cI zh za H.size cc ac fc lc (zwr (zctf f' x3 x5) x3 x5) x3 0) ⟨va_cnB 2 hts gX3_countSolutions_X0_write_n33 rfl rfl rfl (ff_nm hN 9 rfl) (hts _ kX3_countSolutions_2) (by decide +kernel) ⟨ff_fr (by decide), ff_lo (by decide)⟩, (hts _ kX3_countSolutions_42), (hts _ kX3_countSolutions_43)⟩ (ff_preV (q := (RX0, TX0, 5)) (ci := 0) (q0 := 0) hPc hK hDc hN rfl rfl) rfl rfl hl.1 rfl (lv_room (Nat.le_of_ble_eq_true rfl)) dX3_countSolutions_98 ⟨Nat.le_of_ble_eq_true rfl, Nat.le_of_ble_eq_true rfl⟩) hP hD hS hA [0, 1] [] (wr := []) rfl rfl (by decide) (by decide) (fun u H locs hw hP hD hS => ?_)
              replace hw := hw.symm
              subst hw
              have hP : va_P D vwCl [(zh, .inr (0, [.ref za, .int cc, .int ac, .int fc, .int lc])), (za, .inl (cI, 10, .inl (zwr (zwr (zctf f' x3 x5) x3 x5) x3 0)))] H := hP
              have hD : va_D A [(zh, .inr (0, [.ref za, .int cc, .int ac, .int fc, .int lc])), (za, .inl (cI, 10, .inl (zwr (zwr (zctf f' x3 x5) x3 x5) x3 0)))] := hD
              obtain ⟨y_9, ey_9⟩ : ∃ y : Int32, y = x5 + 1 := ⟨_, rfl⟩
              have h := h y_9 ey_9
              refine lv_iinc (v := y_9) (lv' := [(5, .int y_9), (4, .int y_8), (0, .ref zh), (1, .int p1), (2, .int p2), (3, .int x3)]) hx hb dX3_countSolutions_101 hl (k := 5) rfl (by rw [ey_9]; rfl) (by decide) rfl (fun ls hl => ?_)
              refine lv_goto (tgt := 40) hx hb dX3_countSolutions_104 (by decide) ?_
              exact ih _ _ _ _ _ _ _ h.1 (Nat.lt_of_lt_of_le h.2 (Nat.le_of_lt_succ hmu)) (hP.sub [0, 1] rfl) (hD.sub [0, 1] (by decide) rfl) hS (lv_sub hl [2, 3, 4, 5, 1, 0] rfl)
  have L2 : ∀ (N : Nat) (x3 : Int32) (f' : Nat → Int32) (H : Heap) (locs : List Loc) (ls : Array Slot), I2 x3 f' → mu2 x3 f' < N → va_P D vwCl [(zh, .inr (0, [.ref za, .int cc, .int ac, .int fc, .int lc])), (za, .inl (cI, 10, .inl f'))] H → va_D A [(zh, .inr (0, [.ref za, .int cc, .int ac, .int fc, .int lc])), (za, .inl (cI, 10, .inl f'))] → va_S A s.heap H locs → lv_has ls 6 [(0, .ref zh), (1, .int p1), (2, .int p2), (3, .int x3)] → W p l e (ff_rm (d + 1)) s m args below meth c H locs 0 0 Q (F0 m 2 ls []) := by
    intro N
    induction N with
    | zero => intros; rename_i hz _ _ _ _; exact absurd hz (Nat.not_lt_zero _)
    | succ N ih =>
      intro x3 f' H locs ls hI hmu hP hD hS hl
      have h := hv2 x3 f' hI
      unfold vs_X3_countSolutions_2 at h
      refine lv_iload_n hx hb dX3_countSolutions_2 rfl (lv_at hl 3 rfl) ?_
      refine lv_aload_n hx hb dX3_countSolutions_3 rfl (lv_at hl 0 rfl) ?_
      have hPc := hP.sub (ws' := [(zh, .inr (0, [.ref za, .int cc, .int ac, .int fc, .int lc])), (za, .inl (cI, 10, .inl f'))]) [0, 1] rfl
      have hDc := hD.sub (ws' := [(zh, .inr (0, [.ref za, .int cc, .int ac, .int fc, .int lc])), (za, .inl (cI, 10, .inl f'))]) [0, 1] (by decide) rfl
      refine ff_callI (va_runVN (As := []) (rest := [.int x3]) ⟨hx, hb, hml, hown, hts⟩ (c_X0_cellCount l D cI zh za H.size cc ac fc lc f') ⟨va_cnB 0 hts gX3_countSolutions_X0_cellCount_n15 rfl rfl rfl (ff_nm hN 5 rfl) (hts _ kX3_countSolutions_2) (by decide +kernel) ⟨ff_fr (by decide), ff_lo (by decide)⟩, (hts _ kX3_countSolutions_1), (hts _ kX3_countSolutions_3)⟩ (ff_preV (q := (RX0, TX0, 5)) (ci := 0) (q0 := 0) hPc hK hDc hN rfl rfl) rfl rfl hl.1 rfl (lv_room (Nat.le_of_ble_eq_true rfl)) dX3_countSolutions_4 ⟨Nat.le_of_ble_eq_true rfl, Nat.le_of_ble_eq_true rfl⟩) hP hD hS hA [0, 1] [] (wr := []) rfl rfl (by decide) (by decide) (fun r u H locs hw hP hD hS => ?_)
      replace hw := hw.symm
      subst hw
      have hP : va_P D vwCl [(zh, .inr (0, [.ref za, .int cc, .int ac, .int fc, .int lc])), (za, .inl (cI, 10, .inl f'))] H := hP
      have hD : va_D A [(zh, .inr (0, [.ref za, .int cc, .int ac, .int fc, .int lc])), (za, .inl (cI, 10, .inl f'))] := hD
      refine lv_icmp_ge (tgt := 24) hx hb dX3_countSolutions_7 (by decide) (fun c_10 => ?_) (fun c_10 => ?_)
      · have h := h.1 c_10
        refine lv_iload_n hx hb dX3_countSolutions_24 rfl (lv_at hl 3 rfl) ?_
        refine lv_aload_n hx hb dX3_countSolutions_25 rfl (lv_at hl 0 rfl) ?_
        have hPc := hP.sub (ws' := [(zh, .inr (0, [.ref za, .int cc, .int ac, .int fc, .int lc])), (za, .inl (cI, 10, .inl f'))]) [0, 1] rfl
        have hDc := hD.sub (ws' := [(zh, .inr (0, [.ref za, .int cc, .int ac, .int fc, .int lc])), (za, .inl (cI, 10, .inl f'))]) [0, 1] (by decide) rfl
        refine ff_callI (va_runVN (As := []) (rest := [.int x3]) ⟨hx, hb, hml, hown, hts⟩ (c_X0_cellCount l D cI zh za H.size cc ac fc lc f') ⟨va_cnB 0 hts gX3_countSolutions_X0_cellCount_n15 rfl rfl rfl (ff_nm hN 5 rfl) (hts _ kX3_countSolutions_2) (by decide +kernel) ⟨ff_fr (by decide), ff_lo (by decide)⟩, (hts _ kX3_countSolutions_1), (hts _ kX3_countSolutions_3)⟩ (ff_preV (q := (RX0, TX0, 5)) (ci := 0) (q0 := 0) hPc hK hDc hN rfl rfl) rfl rfl hl.1 rfl (lv_room (Nat.le_of_ble_eq_true rfl)) dX3_countSolutions_26 ⟨Nat.le_of_ble_eq_true rfl, Nat.le_of_ble_eq_true rfl⟩) hP hD hS hA [0, 1] [] (wr := []) rfl rfl (by decide) (by decide) (fun r u H locs hw hP hD hS => ?_)
        replace hw := hw.symm
        subst hw
        have hP : va_P D vwCl [(zh, .inr (0, [.ref za, .int cc, .int ac, .int fc, .int lc])), (za, .inl (cI, 10, .inl f'))] H := hP
        have hD : va_D A [(zh, .inr (0, [.ref za, .int cc, .int ac, .int fc, .int lc])), (za, .inl (cI, 10, .inl f'))] := hD
        refine lv_icmp_lt (tgt := 34) hx hb dX3_countSolutions_29 (by decide) (fun c_11 => ?_) (fun c_11 => ?_)
        · have h := h.1 c_11
          refine lv_iconst (v := 0) hx hb dX3_countSolutions_34 (by decide) ?_
          refine lv_istore (lv' := [(4, .int 0), (0, .ref zh), (1, .int p1), (2, .int p2), (3, .int x3)]) hx hb dX3_countSolutions_35 hl (by decide) rfl (fun ls hl => ?_)
          refine lv_iconst (v := 1) hx hb dX3_countSolutions_37 (by decide) ?_
          refine lv_istore (lv' := [(5, .int 1), (4, .int 0), (0, .ref zh), (1, .int p1), (2, .int p2), (3, .int x3)]) hx hb dX3_countSolutions_38 hl (by decide) rfl (fun ls hl => ?_)
          exact L40 _ _ _ _ _ _ _ _ h (Nat.lt_succ_self _) (hP.sub [0, 1] rfl) (hD.sub [0, 1] (by decide) rfl) hS (lv_sub hl [2, 3, 4, 5, 1, 0] rfl)
        · have h := h.2 c_11
          refine lv_iconst (v := 1) hx hb dX3_countSolutions_32 (by decide) ?_
          exact hret 1 (f') _ _ _ _ _ _ h (hP.sub [0, 1] rfl) (hD.sub [0, 1] (by decide) rfl) hS (Nat.le_of_ble_eq_true rfl) (Nat.le_of_ble_eq_true rfl) dX3_countSolutions_33
      · have h := h.2 c_10
        refine lv_aload_n hx hb dX3_countSolutions_10 rfl (lv_at hl 0 rfl) ?_
        refine lv_iload_n hx hb dX3_countSolutions_11 rfl (lv_at hl 3 rfl) ?_
        have hPc := hP.sub (ws' := [(zh, .inr (0, [.ref za, .int cc, .int ac, .int fc, .int lc])), (za, .inl (cI, 10, .inl f'))]) [0, 1] rfl
        have hDc := hD.sub (ws' := [(zh, .inr (0, [.ref za, .int cc, .int ac, .int fc, .int lc])), (za, .inl (cI, 10, .inl f'))]) [0, 1] (by decide) rfl
        refine ff_callI (va_runVN (As := [.int x3]) (rest := []) ⟨hx, hb, hml, hown, hts⟩ (c_X0_numberIn l D cI zh za H.size cc ac fc lc f' x3) ⟨va_cnB 1 hts gX3_countSolutions_X0_numberIn_n21 rfl rfl rfl (ff_nm hN 6 rfl) (hts _ kX3_countSolutions_2) (by decide +kernel) ⟨ff_fr (by decide), ff_lo (by decide)⟩, (hts _ kX3_countSolutions_13), (hts _ kX3_countSolutions_14)⟩ (ff_preV (q := (RX0, TX0, 5)) (ci := 0) (q0 := 0) hPc hK hDc hN rfl rfl) rfl rfl hl.1 rfl (lv_room (Nat.le_of_ble_eq_true rfl)) dX3_countSolutions_12 ⟨Nat.le_of_ble_eq_true rfl, Nat.le_of_ble_eq_true rfl⟩) hP hD hS hA [0, 1] [] (wr := []) rfl rfl (by decide) (by decide) (fun r u H locs hw hP hD hS => ?_)
        replace hw := hw.symm
        subst hw
        have hP : va_P D vwCl [(zh, .inr (0, [.ref za, .int cc, .int ac, .int fc, .int lc])), (za, .inl (cI, 10, .inl f'))] H := hP
        have hD : va_D A [(zh, .inr (0, [.ref za, .int cc, .int ac, .int fc, .int lc])), (za, .inl (cI, 10, .inl f'))] := hD
        refine lv_if_eq (tgt := 24) hx hb dX3_countSolutions_15 (by decide) (fun c_12 => ?_) (fun c_12 => ?_)
        · have h := h.1 c_12
          refine lv_iload_n hx hb dX3_countSolutions_24 rfl (lv_at hl 3 rfl) ?_
          refine lv_aload_n hx hb dX3_countSolutions_25 rfl (lv_at hl 0 rfl) ?_
          have hPc := hP.sub (ws' := [(zh, .inr (0, [.ref za, .int cc, .int ac, .int fc, .int lc])), (za, .inl (cI, 10, .inl f'))]) [0, 1] rfl
          have hDc := hD.sub (ws' := [(zh, .inr (0, [.ref za, .int cc, .int ac, .int fc, .int lc])), (za, .inl (cI, 10, .inl f'))]) [0, 1] (by decide) rfl
          refine ff_callI (va_runVN (As := []) (rest := [.int x3]) ⟨hx, hb, hml, hown, hts⟩ (c_X0_cellCount l D cI zh za H.size cc ac fc lc f') ⟨va_cnB 0 hts gX3_countSolutions_X0_cellCount_n15 rfl rfl rfl (ff_nm hN 5 rfl) (hts _ kX3_countSolutions_2) (by decide +kernel) ⟨ff_fr (by decide), ff_lo (by decide)⟩, (hts _ kX3_countSolutions_1), (hts _ kX3_countSolutions_3)⟩ (ff_preV (q := (RX0, TX0, 5)) (ci := 0) (q0 := 0) hPc hK hDc hN rfl rfl) rfl rfl hl.1 rfl (lv_room (Nat.le_of_ble_eq_true rfl)) dX3_countSolutions_26 ⟨Nat.le_of_ble_eq_true rfl, Nat.le_of_ble_eq_true rfl⟩) hP hD hS hA [0, 1] [] (wr := []) rfl rfl (by decide) (by decide) (fun r u H locs hw hP hD hS => ?_)
          replace hw := hw.symm
          subst hw
          have hP : va_P D vwCl [(zh, .inr (0, [.ref za, .int cc, .int ac, .int fc, .int lc])), (za, .inl (cI, 10, .inl f'))] H := hP
          have hD : va_D A [(zh, .inr (0, [.ref za, .int cc, .int ac, .int fc, .int lc])), (za, .inl (cI, 10, .inl f'))] := hD
          refine lv_icmp_lt (tgt := 34) hx hb dX3_countSolutions_29 (by decide) (fun c_13 => ?_) (fun c_13 => ?_)
          · have h := h.1 c_13
            refine lv_iconst (v := 0) hx hb dX3_countSolutions_34 (by decide) ?_
            refine lv_istore (lv' := [(4, .int 0), (0, .ref zh), (1, .int p1), (2, .int p2), (3, .int x3)]) hx hb dX3_countSolutions_35 hl (by decide) rfl (fun ls hl => ?_)
            refine lv_iconst (v := 1) hx hb dX3_countSolutions_37 (by decide) ?_
            refine lv_istore (lv' := [(5, .int 1), (4, .int 0), (0, .ref zh), (1, .int p1), (2, .int p2), (3, .int x3)]) hx hb dX3_countSolutions_38 hl (by decide) rfl (fun ls hl => ?_)
            exact L40 _ _ _ _ _ _ _ _ h (Nat.lt_succ_self _) (hP.sub [0, 1] rfl) (hD.sub [0, 1] (by decide) rfl) hS (lv_sub hl [2, 3, 4, 5, 1, 0] rfl)
          · have h := h.2 c_13
            refine lv_iconst (v := 1) hx hb dX3_countSolutions_32 (by decide) ?_
            exact hret 1 (f') _ _ _ _ _ _ h (hP.sub [0, 1] rfl) (hD.sub [0, 1] (by decide) rfl) hS (Nat.le_of_ble_eq_true rfl) (Nat.le_of_ble_eq_true rfl) dX3_countSolutions_33
        · have h := h.2 c_12
          obtain ⟨y_14, ey_14⟩ : ∃ y : Int32, y = x3 + 1 := ⟨_, rfl⟩
          have h := h y_14 ey_14
          refine lv_iinc (v := y_14) (lv' := [(3, .int y_14), (0, .ref zh), (1, .int p1), (2, .int p2)]) hx hb dX3_countSolutions_18 hl (k := 3) rfl (by rw [ey_14]; rfl) (by decide) rfl (fun ls hl => ?_)
          refine lv_goto (tgt := 2) hx hb dX3_countSolutions_21 (by decide) ?_
          exact ih _ _ _ _ _ h.1 (Nat.lt_of_lt_of_le h.2 (Nat.le_of_lt_succ hmu)) (hP.sub [0, 1] rfl) (hD.sub [0, 1] (by decide) rfl) hS (lv_sub hl [1, 2, 3, 0] rfl)
  have h := he
  unfold ve_X3_countSolutions at h
  have hl : lv_has ls 6 [(0, .ref zh), (1, .int p1), (2, .int p2)] := hl
  refine lv_iload_n hx hb dX3_countSolutions_0 rfl (lv_at hl 1 rfl) ?_
  refine lv_istore_n (lv' := [(3, .int p1), (0, .ref zh), (1, .int p1), (2, .int p2)]) hx hb dX3_countSolutions_1 rfl hl (by decide) rfl (fun ls hl => ?_)
  exact L2 _ _ _ _ _ _ h (Nat.lt_succ_self _) (hP.sub [0, 1] rfl) (hD.sub [0, 1] (by decide) rfl) hS (lv_sub hl [1, 2, 3, 0] rfl)
theorem c_X3_countSolutions_all (l : Launch) (D : va_G) (cI : ClassId) : ∀ (d : Nat) (zh za : Nat) (sz : Nat) (cc : Int32) (ac : Int32) (fc : Int32) (lc : Int32) (f : Nat → Int32) (p1 : Int32) (p2 : Int32) (hpre : zrp ac f p1 p2 d), Met l yX3_countSolutions wsX3_countSolutions (ff_rm d) (ff_Pc D [(cI, .int)] [.ref zh, .int p1, .int p2] ([(zh, .inr (0, [.ref za, .int cc, .int ac, .int fc, .int lc])), (za, .inl (cI, 10, .inl f))] : va_W) sz) (va_Qi (fun (r : Int32) (u : (Nat → Int32)) => r = zcs cc ac fc lc f p1 p2 ∧ u = (f)) (fun (u : (Nat → Int32)) t => ff_B D [(cI, .int)] (va_A ([(zh, .inr (0, [.ref za, .int cc, .int ac, .int fc, .int lc])), (za, .inl (cI, 10, .inl f))] : va_W) sz) [(zh, .inr (0, [.ref za, .int cc, .int ac, .int fc, .int lc])), (za, .inl (cI, 10, .inl u))] t) (va_A ([(zh, .inr (0, [.ref za, .int cc, .int ac, .int fc, .int lc])), (za, .inl (cI, 10, .inl f))] : va_W) sz)) 0 0 (va_A ([(zh, .inr (0, [.ref za, .int cc, .int ac, .int fc, .int lc])), (za, .inl (cI, 10, .inl f))] : va_W) sz)
  | 0, zh, za, sz, cc, ac, fc, lc, f, p1, p2, hpre => (pz_X3_countSolutions cc ac fc lc f p1 p2 hpre).elim
  | d + 1, zh, za, sz, cc, ac, fc, lc, f, p1, p2, hpre => a_X3_countSolutions l D cI zh za sz cc ac fc lc f p1 p2 d (c_X3_countSolutions_all l D cI d) _ (I_X3_countSolutions_2 cc ac fc lc f p1 p2 d) (mu_X3_countSolutions_2 cc ac fc lc f p1 p2 d) (I_X3_countSolutions_40 cc ac fc lc f p1 p2 d) (mu_X3_countSolutions_40 cc ac fc lc f p1 p2 d) (pl_X3_countSolutions_2 cc ac fc lc f p1 p2 d hpre) (pl_X3_countSolutions_40 cc ac fc lc f p1 p2 d hpre) (pe_X3_countSolutions cc ac fc lc f p1 p2 d hpre)
theorem c_X3_countSolutions (l : Launch) (D : va_G) (cI : ClassId) (zh za : Nat) (sz : Nat) (cc : Int32) (ac : Int32) (fc : Int32) (lc : Int32) (f : Nat → Int32) (p1 : Int32) (p2 : Int32) (hpre : zrp ac f p1 p2 13) : Met l yX3_countSolutions wsX3_countSolutions ({ frames := 36, cells := 0, slots := 0, locals := 980 } : Room) (ff_Pc D [(cI, .int)] [.ref zh, .int p1, .int p2] ([(zh, .inr (0, [.ref za, .int cc, .int ac, .int fc, .int lc])), (za, .inl (cI, 10, .inl f))] : va_W) sz) (va_Qi (fun (r : Int32) (u : (Nat → Int32)) => r = zcs cc ac fc lc f p1 p2 ∧ u = (f)) (fun (u : (Nat → Int32)) t => ff_B D [(cI, .int)] (va_A ([(zh, .inr (0, [.ref za, .int cc, .int ac, .int fc, .int lc])), (za, .inl (cI, 10, .inl f))] : va_W) sz) [(zh, .inr (0, [.ref za, .int cc, .int ac, .int fc, .int lc])), (za, .inl (cI, 10, .inl u))] t) (va_A ([(zh, .inr (0, [.ref za, .int cc, .int ac, .int fc, .int lc])), (za, .inl (cI, 10, .inl f))] : va_W) sz)) 0 0 (va_A ([(zh, .inr (0, [.ref za, .int cc, .int ac, .int fc, .int lc])), (za, .inl (cI, 10, .inl f))] : va_W) sz) := c_X3_countSolutions_all l D cI 13 zh za sz cc ac fc lc f p1 p2 hpre
theorem kX3_solveFrom_2 : (.initialized RX0 : Cond) ∈ wsX3_solveFrom := List.mem_of_getElem? (i := 2) rfl
theorem kX3_solveFrom_13 : (.instanceMethod yX0_leavesEnough : Cond) ∈ wsX3_solveFrom := List.mem_of_getElem? (i := 13) rfl
theorem kX3_solveFrom_14 : (.selects RX0 yX0_leavesEnough yX0_leavesEnough : Cond) ∈ wsX3_solveFrom := List.mem_of_getElem? (i := 14) rfl
theorem kX3_solveFrom_29 : (.instanceMethod yX0_canTake : Cond) ∈ wsX3_solveFrom := List.mem_of_getElem? (i := 29) rfl
theorem kX3_solveFrom_30 : (.selects RX0 yX0_canTake yX0_canTake : Cond) ∈ wsX3_solveFrom := List.mem_of_getElem? (i := 30) rfl
theorem kX3_solveFrom_39 : (.instanceMethod yX0_write : Cond) ∈ wsX3_solveFrom := List.mem_of_getElem? (i := 39) rfl
theorem kX3_solveFrom_40 : (.selects RX0 yX0_write yX0_write : Cond) ∈ wsX3_solveFrom := List.mem_of_getElem? (i := 40) rfl
theorem kX3_solveFrom_1 : (.instanceMethod yX0_cellCount : Cond) ∈ wsX3_solveFrom := List.mem_of_getElem? (i := 1) rfl
theorem kX3_solveFrom_3 : (.selects RX0 yX0_cellCount yX0_cellCount : Cond) ∈ wsX3_solveFrom := List.mem_of_getElem? (i := 3) rfl
set_option maxHeartbeats 4000000 in
set_option maxRecDepth 100000 in
theorem a_X3_solveFrom (l : Launch) (D : va_G) (cI : ClassId) (zh za va : Nat) (sz : Nat) (cc : Int32) (ac : Int32) (fc : Int32) (lc : Int32) (f : Nat → Int32) (fnf : Nat → Int32) (p1 : Int32) (d : Nat) (hrec : ∀ (zh za va : Nat) (sz : Nat) (cc : Int32) (ac : Int32) (fc : Int32) (lc : Int32) (f : Nat → Int32) (fnf : Nat → Int32) (p1 : Int32), (zrq ac f fnf p1 d) → Met l yX3_solveFrom wsX3_solveFrom (ff_rm d) (ff_Pc D [(cI, .int)] [.ref zh, .int p1, .ref va] ([(zh, .inr (0, [.ref za, .int cc, .int ac, .int fc, .int lc])), (za, .inl (cI, 10, .inl f)), (va, .inl (cI, 12, .inl fnf))] : va_W) sz) (va_Qi (fun (r : Int32) (u : (Nat → Int32)) => r = b2i (zsf cc ac fc lc f fnf p1).isSome ∧ u = ((zsf cc ac fc lc f fnf p1).getD f)) (fun (u : (Nat → Int32)) t => ff_B D [(cI, .int)] (va_A ([(zh, .inr (0, [.ref za, .int cc, .int ac, .int fc, .int lc])), (za, .inl (cI, 10, .inl f)), (va, .inl (cI, 12, .inl fnf))] : va_W) sz) [(zh, .inr (0, [.ref za, .int cc, .int ac, .int fc, .int lc])), (za, .inl (cI, 10, .inl u)), (va, .inl (cI, 12, .inl fnf))] t) (va_A ([(zh, .inr (0, [.ref za, .int cc, .int ac, .int fc, .int lc])), (za, .inl (cI, 10, .inl f)), (va, .inl (cI, 12, .inl fnf))] : va_W) sz)) 0 0 (va_A ([(zh, .inr (0, [.ref za, .int cc, .int ac, .int fc, .int lc])), (za, .inl (cI, 10, .inl f)), (va, .inl (cI, 12, .inl fnf))] : va_W) sz)) (P : Int32 → ((Nat → Int32)) → Prop) (I27 : Int32 → Int32 → (Nat → Int32) → Prop) (mu27 : Int32 → Int32 → (Nat → Int32) → Nat) (hv27 : ∀ (x3 : Int32) (x4 : Int32) (f' : Nat → Int32), I27 x3 x4 f' → vs_X3_solveFrom_27 cc ac fc lc f fnf p1 d P (fun (x39 : Int32) (x49 : Int32) (f9 : Nat → Int32) => I27 x39 x49 f9 ∧ mu27 x39 x49 f9 < mu27 x3 x4 f') x3 x4 f') (he : ve_X3_solveFrom cc ac fc lc f fnf p1 d P I27) : Met l yX3_solveFrom wsX3_solveFrom (ff_rm (d + 1)) (ff_Pc D [(cI, .int)] [.ref zh, .int p1, .ref va] ([(zh, .inr (0, [.ref za, .int cc, .int ac, .int fc, .int lc])), (za, .inl (cI, 10, .inl f)), (va, .inl (cI, 12, .inl fnf))] : va_W) sz) (va_Qi P (fun (u : (Nat → Int32)) t => ff_B D [(cI, .int)] (va_A ([(zh, .inr (0, [.ref za, .int cc, .int ac, .int fc, .int lc])), (za, .inl (cI, 10, .inl f)), (va, .inl (cI, 12, .inl fnf))] : va_W) sz) [(zh, .inr (0, [.ref za, .int cc, .int ac, .int fc, .int lc])), (za, .inl (cI, 10, .inl u)), (va, .inl (cI, 12, .inl fnf))] t) (va_A ([(zh, .inr (0, [.ref za, .int cc, .int ac, .int fc, .int lc])), (za, .inl (cI, 10, .inl f)), (va, .inl (cI, 12, .inl fnf))] : va_W) sz)) 0 0 (va_A ([(zh, .inr (0, [.ref za, .int cc, .int ac, .int fc, .int lc])), (za, .inl (cI, 10, .inl f)), (va, .inl (cI, 12, .inl fnf))] : va_W) sz) := by
  refine ff_metZ (Wf := (fun (u : (Nat → Int32)) => ([(zh, .inr (0, [.ref za, .int cc, .int ac, .int fc, .int lc])), (za, .inl (cI, 10, .inl u)), (va, .inl (cI, 12, .inl fnf))] : va_W))) (by decide +kernel) rfl (Nat.le_of_ble_eq_true rfl) ?_
  intro p e s m args below meth c A Q ls H hx hb hml hown hts hN hA hK hP hD hS hret hl
  have L27 : ∀ (N : Nat) (x3 : Int32) (x4 : Int32) (f' : Nat → Int32) (H : Heap) (locs : List Loc) (ls : Array Slot), I27 x3 x4 f' → mu27 x3 x4 f' < N → va_P D vwCl [(zh, .inr (0, [.ref za, .int cc, .int ac, .int fc, .int lc])), (za, .inl (cI, 10, .inl f')), (va, .inl (cI, 12, .inl fnf))] H → va_D A [(zh, .inr (0, [.ref za, .int cc, .int ac, .int fc, .int lc])), (za, .inl (cI, 10, .inl f')), (va, .inl (cI, 12, .inl fnf))] → va_S A s.heap H locs → lv_has ls 5 [(0, .ref zh), (1, .int p1), (2, .ref va), (3, .int x3), (4, .int x4)] → W p l e (ff_rm (d + 1)) s m args below meth c H locs 0 0 Q (F0 m 27 ls []) := by
    intro N
    induction N with
    | zero => intros; rename_i hz _ _ _ _; exact absurd hz (Nat.not_lt_zero _)
    | succ N ih =>
      intro x3 x4 f' H locs ls hI hmu hP hD hS hl
      have h := hv27 x3 x4 f' hI
      unfold vs_X3_solveFrom_27 at h
      refine lv_iload hx hb dX3_solveFrom_27 (lv_at hl 4 rfl) ?_
      refine lv_bipush (v := 9) hx hb dX3_solveFrom_29 (by decide) ?_
      refine lv_icmp_ge (tgt := 96) hx hb dX3_solveFrom_31 (by decide) (fun c_1 => ?_) (fun c_1 => ?_)
      · have h := h.1 c_1
        refine lv_iconst (v := 0) hx hb dX3_solveFrom_96 (by decide) ?_
        exact hret 0 (f') _ _ _ _ _ _ (by decide) h (hP.sub [0, 1, 2] rfl) (hD.sub [0, 1, 2] (by decide) rfl) hS (Nat.le_of_ble_eq_true rfl) (Nat.le_of_ble_eq_true rfl) dX3_solveFrom_97
      · have h := h.2 c_1
        refine lv_aload_n hx hb dX3_solveFrom_34 rfl (lv_at hl 0 rfl) ?_
        refine lv_iload_n hx hb dX3_solveFrom_35 rfl (lv_at hl 3 rfl) ?_
        have hPc := hP.sub (ws' := [(zh, .inr (0, [.ref za, .int cc, .int ac, .int fc, .int lc])), (za, .inl (cI, 10, .inl f'))]) [0, 1] rfl
        have hDc := hD.sub (ws' := [(zh, .inr (0, [.ref za, .int cc, .int ac, .int fc, .int lc])), (za, .inl (cI, 10, .inl f'))]) [0, 1] (by decide) rfl
        refine ff_callI (va_runVN (As := [.int x3]) (rest := []) ⟨hx, hb, hml, hown, hts⟩ (c_X0_leavesEnough l D cI zh za H.size cc ac fc lc f' x3) ⟨va_cnB 1 hts gX3_solveFrom_X0_leavesEnough_n25 rfl rfl rfl (ff_nm hN 7 rfl) (hts _ kX3_solveFrom_2) (by decide +kernel) ⟨ff_fr (by decide), ff_lo (by decide)⟩, (hts _ kX3_solveFrom_13), (hts _ kX3_solveFrom_14)⟩ (ff_preV (q := (RX0, TX0, 5)) (ci := 0) (q0 := 0) hPc hK hDc hN rfl rfl) rfl rfl hl.1 rfl (lv_room (Nat.le_of_ble_eq_true rfl)) dX3_solveFrom_36 ⟨Nat.le_of_ble_eq_true rfl, Nat.le_of_ble_eq_true rfl⟩) hP hD hS hA [0, 1] [2] (wr := [(va, .inl (cI, 12, .inl fnf))]) rfl rfl (by decide) (by decide) (fun r u H locs hw hP hD hS => ?_)
        replace hw := hw.symm
        subst hw
        have hP : va_P D vwCl [(va, .inl (cI, 12, .inl fnf)), (zh, .inr (0, [.ref za, .int cc, .int ac, .int fc, .int lc])), (za, .inl (cI, 10, .inl f'))] H := hP
        have hD : va_D A [(va, .inl (cI, 12, .inl fnf)), (zh, .inr (0, [.ref za, .int cc, .int ac, .int fc, .int lc])), (za, .inl (cI, 10, .inl f'))] := hD
        refine lv_if_eq (tgt := 76) hx hb dX3_solveFrom_39 (by decide) (fun c_2 => ?_) (fun c_2 => ?_)
        · have h := h.1 c_2
          refine lv_iload_n hx hb dX3_solveFrom_76 rfl (lv_at hl 3 rfl) ?_
          refine lv_bipush (v := 9) hx hb dX3_solveFrom_77 (by decide) ?_
          refine lv_icmp_ne (tgt := 86) hx hb dX3_solveFrom_79 (by decide) (fun c_3 => ?_) (fun c_3 => ?_)
          · have h := h.2 c_3
            refine lv_iload_n hx hb dX3_solveFrom_86 rfl (lv_at hl 3 rfl) ?_
            refine lv_iconst (v := 1) hx hb dX3_solveFrom_87 (by decide) ?_
            refine lv_iadd hx hb dX3_solveFrom_88 ?_
            refine lv_topi (fun y_4 ey_4 => ?_)
            have h := h y_4 ey_4
            refine lv_istore_n (lv' := [(3, .int y_4), (0, .ref zh), (1, .int p1), (2, .ref va), (4, .int x4)]) hx hb dX3_solveFrom_89 rfl hl (by decide) rfl (fun ls hl => ?_)
            obtain ⟨y_5, ey_5⟩ : ∃ y : Int32, y = x4 + 1 := ⟨_, rfl⟩
            have h := h y_5 ey_5
            refine lv_iinc (v := y_5) (lv' := [(4, .int y_5), (3, .int y_4), (0, .ref zh), (1, .int p1), (2, .ref va)]) hx hb dX3_solveFrom_90 hl (k := 4) rfl (by rw [ey_5]; rfl) (by decide) rfl (fun ls hl => ?_)
            refine lv_goto (tgt := 27) hx hb dX3_solveFrom_93 (by decide) ?_
            exact ih _ _ _ _ _ _ h.1 (Nat.lt_of_lt_of_le h.2 (Nat.le_of_lt_succ hmu)) (hP.sub [1, 2, 0] rfl) (hD.sub [1, 2, 0] (by decide) rfl) hS (lv_sub hl [2, 3, 4, 1, 0] rfl)
          · have h := h.1 c_3
            refine lv_iconst (v := 1) hx hb dX3_solveFrom_82 (by decide) ?_
            refine lv_goto (tgt := 89) hx hb dX3_solveFrom_83 (by decide) ?_
            refine lv_istore_n (lv' := [(3, .int 1), (0, .ref zh), (1, .int p1), (2, .ref va), (4, .int x4)]) hx hb dX3_solveFrom_89 rfl hl (by decide) rfl (fun ls hl => ?_)
            obtain ⟨y_6, ey_6⟩ : ∃ y : Int32, y = x4 + 1 := ⟨_, rfl⟩
            have h := h y_6 ey_6
            refine lv_iinc (v := y_6) (lv' := [(4, .int y_6), (3, .int 1), (0, .ref zh), (1, .int p1), (2, .ref va)]) hx hb dX3_solveFrom_90 hl (k := 4) rfl (by rw [ey_6]; rfl) (by decide) rfl (fun ls hl => ?_)
            refine lv_goto (tgt := 27) hx hb dX3_solveFrom_93 (by decide) ?_
            exact ih _ _ _ _ _ _ h.1 (Nat.lt_of_lt_of_le h.2 (Nat.le_of_lt_succ hmu)) (hP.sub [1, 2, 0] rfl) (hD.sub [1, 2, 0] (by decide) rfl) hS (lv_sub hl [2, 3, 4, 1, 0] rfl)
        · have h := h.2 c_2
          refine lv_aload_n hx hb dX3_solveFrom_42 rfl (lv_at hl 0 rfl) ?_
          refine lv_iload_n hx hb dX3_solveFrom_43 rfl (lv_at hl 1 rfl) ?_
          refine lv_iload_n hx hb dX3_solveFrom_44 rfl (lv_at hl 3 rfl) ?_
          have hPc := hP.sub (ws' := [(zh, .inr (0, [.ref za, .int cc, .int ac, .int fc, .int lc])), (za, .inl (cI, 10, .inl f'))]) [1, 2] rfl
          have hDc := hD.sub (ws' := [(zh, .inr (0, [.ref za, .int cc, .int ac, .int fc, .int lc])), (za, .inl (cI, 10, .inl f'))]) [1, 2] (by decide) rfl
          refine ff_callI (va_runVN (As := [.int p1, .int x3]) (rest := []) ⟨hx, hb, hml, hown, hts⟩ (c_X0_canTake l D cI zh za H.size cc ac fc lc f' p1 x3) ⟨va_cnB 2 hts gX3_solveFrom_X0_canTake_n29 rfl rfl rfl (ff_nm hN 8 rfl) (hts _ kX3_solveFrom_2) (by decide +kernel) ⟨ff_fr (by decide), ff_lo (by decide)⟩, (hts _ kX3_solveFrom_29), (hts _ kX3_solveFrom_30)⟩ (ff_preV (q := (RX0, TX0, 5)) (ci := 0) (q0 := 0) hPc hK hDc hN rfl rfl) rfl rfl hl.1 rfl (lv_room (Nat.le_of_ble_eq_true rfl)) dX3_solveFrom_45 ⟨Nat.le_of_ble_eq_true rfl, Nat.le_of_ble_eq_true rfl⟩) hP hD hS hA [1, 2] [0] (wr := [(va, .inl (cI, 12, .inl fnf))]) rfl rfl (by decide) (by decide) (fun r u H locs hw hP hD hS => ?_)
          obtain ⟨e0_w, e1_w⟩ := hw
          replace e0_w := e0_w.symm
          subst e0_w
          replace e1_w := e1_w.symm
          subst e1_w
          have hP : va_P D vwCl [(va, .inl (cI, 12, .inl fnf)), (zh, .inr (0, [.ref za, .int cc, .int ac, .int fc, .int lc])), (za, .inl (cI, 10, .inl (zctf f' p1 x3)))] H := hP
          have hD : va_D A [(va, .inl (cI, 12, .inl fnf)), (zh, .inr (0, [.ref za, .int cc, .int ac, .int fc, .int lc])), (za, .inl (cI, 10, .inl (zctf f' p1 x3)))] := hD
          refine lv_if_eq (tgt := 76) hx hb dX3_solveFrom_48 (by decide) (fun c_7 => ?_) (fun c_7 => ?_)
          · have h := h.1 c_7
            refine lv_iload_n hx hb dX3_solveFrom_76 rfl (lv_at hl 3 rfl) ?_
            refine lv_bipush (v := 9) hx hb dX3_solveFrom_77 (by decide) ?_
            refine lv_icmp_ne (tgt := 86) hx hb dX3_solveFrom_79 (by decide) (fun c_8 => ?_) (fun c_8 => ?_)
            · have h := h.2 c_8
              refine lv_iload_n hx hb dX3_solveFrom_86 rfl (lv_at hl 3 rfl) ?_
              refine lv_iconst (v := 1) hx hb dX3_solveFrom_87 (by decide) ?_
              refine lv_iadd hx hb dX3_solveFrom_88 ?_
              refine lv_topi (fun y_9 ey_9 => ?_)
              have h := h y_9 ey_9
              refine lv_istore_n (lv' := [(3, .int y_9), (0, .ref zh), (1, .int p1), (2, .ref va), (4, .int x4)]) hx hb dX3_solveFrom_89 rfl hl (by decide) rfl (fun ls hl => ?_)
              obtain ⟨y_10, ey_10⟩ : ∃ y : Int32, y = x4 + 1 := ⟨_, rfl⟩
              have h := h y_10 ey_10
              refine lv_iinc (v := y_10) (lv' := [(4, .int y_10), (3, .int y_9), (0, .ref zh), (1, .int p1), (2, .ref va)]) hx hb dX3_solveFrom_90 hl (k := 4) rfl (by rw [ey_10]; rfl) (by decide) rfl (fun ls hl => ?_)
              refine lv_goto (tgt := 27) hx hb dX3_solveFrom_93 (by decide) ?_
              exact ih _ _ _ _ _ _ h.1 (Nat.lt_of_lt_of_le h.2 (Nat.le_of_lt_succ hmu)) (hP.sub [1, 2, 0] rfl) (hD.sub [1, 2, 0] (by decide) rfl) hS (lv_sub hl [2, 3, 4, 1, 0] rfl)
            · have h := h.1 c_8
              refine lv_iconst (v := 1) hx hb dX3_solveFrom_82 (by decide) ?_
              refine lv_goto (tgt := 89) hx hb dX3_solveFrom_83 (by decide) ?_
              refine lv_istore_n (lv' := [(3, .int 1), (0, .ref zh), (1, .int p1), (2, .ref va), (4, .int x4)]) hx hb dX3_solveFrom_89 rfl hl (by decide) rfl (fun ls hl => ?_)
              obtain ⟨y_11, ey_11⟩ : ∃ y : Int32, y = x4 + 1 := ⟨_, rfl⟩
              have h := h y_11 ey_11
              refine lv_iinc (v := y_11) (lv' := [(4, .int y_11), (3, .int 1), (0, .ref zh), (1, .int p1), (2, .ref va)]) hx hb dX3_solveFrom_90 hl (k := 4) rfl (by rw [ey_11]; rfl) (by decide) rfl (fun ls hl => ?_)
              refine lv_goto (tgt := 27) hx hb dX3_solveFrom_93 (by decide) ?_
              exact ih _ _ _ _ _ _ h.1 (Nat.lt_of_lt_of_le h.2 (Nat.le_of_lt_succ hmu)) (hP.sub [1, 2, 0] rfl) (hD.sub [1, 2, 0] (by decide) rfl) hS (lv_sub hl [2, 3, 4, 1, 0] rfl)
          · have h := h.2 c_7
            refine lv_aload_n hx hb dX3_solveFrom_51 rfl (lv_at hl 0 rfl) ?_
            refine lv_iload_n hx hb dX3_solveFrom_52 rfl (lv_at hl 1 rfl) ?_
            refine lv_iload_n hx hb dX3_solveFrom_53 rfl (lv_at hl 3 rfl) ?_
            have hPc := hP.sub (ws' := [(zh, .inr (0, [.ref za, .int cc, .int ac, .int fc, .int lc])), (za, .inl (cI, 10, .inl (zctf f' p1 x3)))]) [1, 2] rfl
            have hDc := hD.sub (ws' := [(zh, .inr (0, [.ref za, .int cc, .int ac, .int fc, .int lc])), (za, .inl (cI, 10, .inl (zctf f' p1 x3)))]) [1, 2] (by decide) rfl
            refine ff_callV (va_runVN (As := [.int p1, .int x3]) (rest := []) ⟨hx, hb, hml, hown, hts⟩ (c_X0_write l D cI zh za H.size cc ac fc lc (zctf f' p1 x3) p1 x3) ⟨va_cnB 2 hts gX3_solveFrom_X0_write_n33 rfl rfl rfl (ff_nm hN 9 rfl) (hts _ kX3_solveFrom_2) (by decide +kernel) ⟨ff_fr (by decide), ff_lo (by decide)⟩, (hts _ kX3_solveFrom_39), (hts _ kX3_solveFrom_40)⟩ (ff_preV (q := (RX0, TX0, 5)) (ci := 0) (q0 := 0) hPc hK hDc hN rfl rfl) rfl rfl hl.1 rfl (lv_room (Nat.le_of_ble_eq_true rfl)) dX3_solveFrom_54 ⟨Nat.le_of_ble_eq_true rfl, Nat.le_of_ble_eq_true rfl⟩) hP hD hS hA [1, 2] [0] (wr := [(va, .inl (cI, 12, .inl fnf))]) rfl rfl (by decide) (by decide) (fun u H locs hw hP hD hS => ?_)
            replace hw := hw.symm
            subst hw
            have hP : va_P D vwCl [(va, .inl (cI, 12, .inl fnf)), (zh, .inr (0, [.ref za, .int cc, .int ac, .int fc, .int lc])), (za, .inl (cI, 10, .inl (zwr (zctf f' p1 x3) p1 x3)))] H := hP
            have hD : va_D A [(va, .inl (cI, 12, .inl fnf)), (zh, .inr (0, [.ref za, .int cc, .int ac, .int fc, .int lc])), (za, .inl (cI, 10, .inl (zwr (zctf f' p1 x3) p1 x3)))] := hD
            refine lv_aload_n hx hb dX3_solveFrom_57 rfl (lv_at hl 0 rfl) ?_
            refine lv_iload_n hx hb dX3_solveFrom_58 rfl (lv_at hl 1 rfl) ?_
            refine lv_iconst (v := 1) hx hb dX3_solveFrom_59 (by decide) ?_
            refine lv_iadd hx hb dX3_solveFrom_60 ?_
            refine lv_aload_n hx hb dX3_solveFrom_61 rfl (lv_at hl 2 rfl) ?_
            obtain ⟨p_12, h⟩ := h
            have hPc := hP.sub (ws' := [(zh, .inr (0, [.ref za, .int cc, .int ac, .int fc, .int lc])), (za, .inl (cI, 10, .inl (zwr (zctf f' p1 x3) p1 x3))), (va, .inl (cI, 12, .inl fnf))]) [1, 2, 0] rfl
            have hDc := hD.sub (ws' := [(zh, .inr (0, [.ref za, .int cc, .int ac, .int fc, .int lc])), (za, .inl (cI, 10, .inl (zwr (zctf f' p1 x3) p1 x3))), (va, .inl (cI, 12, .inl fnf))]) [1, 2, 0] (by decide) rfl
            refine ff_callI (va_runS (As := [.ref zh, .int (p1 + 1), .ref va]) (rest := []) ⟨hx, hb, hml, hown, hts⟩ (hrec zh za va H.size cc ac fc lc (zwr (zctf f' p1 x3) p1 x3) fnf (p1 + 1) p_12) (va_cwS 3 hts gX3_solveFrom_X3_solveFrom rfl rfl rfl (by decide +kernel) ⟨ff_frs, ff_los (by decide)⟩) (ff_preS hPc hK hDc hN) rfl rfl hl.1 rfl (lv_room (Nat.le_of_ble_eq_true rfl)) dX3_solveFrom_62 ⟨Nat.le_of_ble_eq_true rfl, Nat.le_of_ble_eq_true rfl⟩) hP hD hS hA [1, 2, 0] [] (wr := []) rfl rfl (by decide) (by decide) (fun r u H locs hw hP hD hS => ?_)
            obtain ⟨e0_w, e1_w⟩ := hw
            replace e0_w := e0_w.symm
            subst e0_w
            replace e1_w := e1_w.symm
            subst e1_w
            have hP : va_P D vwCl [(zh, .inr (0, [.ref za, .int cc, .int ac, .int fc, .int lc])), (za, .inl (cI, 10, .inl ((zsf cc ac fc lc (zwr (zctf f' p1 x3) p1 x3) fnf (p1 + 1)).getD (zwr (zctf f' p1 x3) p1 x3)))), (va, .inl (cI, 12, .inl fnf))] H := hP
            have hD : va_D A [(zh, .inr (0, [.ref za, .int cc, .int ac, .int fc, .int lc])), (za, .inl (cI, 10, .inl ((zsf cc ac fc lc (zwr (zctf f' p1 x3) p1 x3) fnf (p1 + 1)).getD (zwr (zctf f' p1 x3) p1 x3)))), (va, .inl (cI, 12, .inl fnf))] := hD
            refine lv_if_eq (tgt := 70) hx hb dX3_solveFrom_65 (by decide) (fun c_13 => ?_) (fun c_13 => ?_)
            · have h := h.1 c_13
              refine lv_aload_n hx hb dX3_solveFrom_70 rfl (lv_at hl 0 rfl) ?_
              refine lv_iload_n hx hb dX3_solveFrom_71 rfl (lv_at hl 1 rfl) ?_
              refine lv_iconst (v := 0) hx hb dX3_solveFrom_72 (by decide) ?_
              have hPc := hP.sub (ws' := [(zh, .inr (0, [.ref za, .int cc, .int ac, .int fc, .int lc])), (za, .inl (cI, 10, .inl ((zsf cc ac fc lc (zwr (zctf f' p1 x3) p1 x3) fnf (p1 + 1)).getD (zwr (zctf f' p1 x3) p1 x3))))]) [0, 1] rfl
              have hDc := hD.sub (ws' := [(zh, .inr (0, [.ref za, .int cc, .int ac, .int fc, .int lc])), (za, .inl (cI, 10, .inl ((zsf cc ac fc lc (zwr (zctf f' p1 x3) p1 x3) fnf (p1 + 1)).getD (zwr (zctf f' p1 x3) p1 x3))))]) [0, 1] (by decide) rfl
              refine ff_callV (va_runVN (As := [.int p1, .int 0]) (rest := []) ⟨hx, hb, hml, hown, hts⟩ (c_X0_write l D cI zh za H.size cc ac fc lc ((zsf cc ac fc lc (zwr (zctf f' p1 x3) p1 x3) fnf (p1 + 1)).getD (zwr (zctf f' p1 x3) p1 x3)) p1 0) ⟨va_cnB 2 hts gX3_solveFrom_X0_write_n33 rfl rfl rfl (ff_nm hN 9 rfl) (hts _ kX3_solveFrom_2) (by decide +kernel) ⟨ff_fr (by decide), ff_lo (by decide)⟩, (hts _ kX3_solveFrom_39), (hts _ kX3_solveFrom_40)⟩ (ff_preV (q := (RX0, TX0, 5)) (ci := 0) (q0 := 0) hPc hK hDc hN rfl rfl) rfl rfl hl.1 rfl (lv_room (Nat.le_of_ble_eq_true rfl)) dX3_solveFrom_73 ⟨Nat.le_of_ble_eq_true rfl, Nat.le_of_ble_eq_true rfl⟩) hP hD hS hA [0, 1] [2] (wr := [(va, .inl (cI, 12, .inl fnf))]) rfl rfl (by decide) (by decide) (fun u H locs hw hP hD hS => ?_)
              replace hw := hw.symm
              subst hw
              have hP : va_P D vwCl [(va, .inl (cI, 12, .inl fnf)), (zh, .inr (0, [.ref za, .int cc, .int ac, .int fc, .int lc])), (za, .inl (cI, 10, .inl (zwr ((zsf cc ac fc lc (zwr (zctf f' p1 x3) p1 x3) fnf (p1 + 1)).getD (zwr (zctf f' p1 x3) p1 x3)) p1 0)))] H := hP
              have hD : va_D A [(va, .inl (cI, 12, .inl fnf)), (zh, .inr (0, [.ref za, .int cc, .int ac, .int fc, .int lc])), (za, .inl (cI, 10, .inl (zwr ((zsf cc ac fc lc (zwr (zctf f' p1 x3) p1 x3) fnf (p1 + 1)).getD (zwr (zctf f' p1 x3) p1 x3)) p1 0)))] := hD
              refine lv_iload_n hx hb dX3_solveFrom_76 rfl (lv_at hl 3 rfl) ?_
              refine lv_bipush (v := 9) hx hb dX3_solveFrom_77 (by decide) ?_
              refine lv_icmp_ne (tgt := 86) hx hb dX3_solveFrom_79 (by decide) (fun c_14 => ?_) (fun c_14 => ?_)
              · have h := h.2 c_14
                refine lv_iload_n hx hb dX3_solveFrom_86 rfl (lv_at hl 3 rfl) ?_
                refine lv_iconst (v := 1) hx hb dX3_solveFrom_87 (by decide) ?_
                refine lv_iadd hx hb dX3_solveFrom_88 ?_
                refine lv_topi (fun y_15 ey_15 => ?_)
                have h := h y_15 ey_15
                refine lv_istore_n (lv' := [(3, .int y_15), (0, .ref zh), (1, .int p1), (2, .ref va), (4, .int x4)]) hx hb dX3_solveFrom_89 rfl hl (by decide) rfl (fun ls hl => ?_)
                obtain ⟨y_16, ey_16⟩ : ∃ y : Int32, y = x4 + 1 := ⟨_, rfl⟩
                have h := h y_16 ey_16
                refine lv_iinc (v := y_16) (lv' := [(4, .int y_16), (3, .int y_15), (0, .ref zh), (1, .int p1), (2, .ref va)]) hx hb dX3_solveFrom_90 hl (k := 4) rfl (by rw [ey_16]; rfl) (by decide) rfl (fun ls hl => ?_)
                refine lv_goto (tgt := 27) hx hb dX3_solveFrom_93 (by decide) ?_
                exact ih _ _ _ _ _ _ h.1 (Nat.lt_of_lt_of_le h.2 (Nat.le_of_lt_succ hmu)) (hP.sub [1, 2, 0] rfl) (hD.sub [1, 2, 0] (by decide) rfl) hS (lv_sub hl [2, 3, 4, 1, 0] rfl)
              · have h := h.1 c_14
                refine lv_iconst (v := 1) hx hb dX3_solveFrom_82 (by decide) ?_
                refine lv_goto (tgt := 89) hx hb dX3_solveFrom_83 (by decide) ?_
                refine lv_istore_n (lv' := [(3, .int 1), (0, .ref zh), (1, .int p1), (2, .ref va), (4, .int x4)]) hx hb dX3_solveFrom_89 rfl hl (by decide) rfl (fun ls hl => ?_)
                obtain ⟨y_17, ey_17⟩ : ∃ y : Int32, y = x4 + 1 := ⟨_, rfl⟩
                have h := h y_17 ey_17
                refine lv_iinc (v := y_17) (lv' := [(4, .int y_17), (3, .int 1), (0, .ref zh), (1, .int p1), (2, .ref va)]) hx hb dX3_solveFrom_90 hl (k := 4) rfl (by rw [ey_17]; rfl) (by decide) rfl (fun ls hl => ?_)
                refine lv_goto (tgt := 27) hx hb dX3_solveFrom_93 (by decide) ?_
                exact ih _ _ _ _ _ _ h.1 (Nat.lt_of_lt_of_le h.2 (Nat.le_of_lt_succ hmu)) (hP.sub [1, 2, 0] rfl) (hD.sub [1, 2, 0] (by decide) rfl) hS (lv_sub hl [2, 3, 4, 1, 0] rfl)
            · have h := h.2 c_13
              refine lv_iconst (v := 1) hx hb dX3_solveFrom_68 (by decide) ?_
              exact hret 1 ((zsf cc ac fc lc (zwr (zctf f' p1 x3) p1 x3) fnf (p1 + 1)).getD (zwr (zctf f' p1 x3) p1 x3)) _ _ _ _ _ _ (by decide) h (hP.sub [0, 1, 2] rfl) (hD.sub [0, 1, 2] (by decide) rfl) hS (Nat.le_of_ble_eq_true rfl) (Nat.le_of_ble_eq_true rfl) dX3_solveFrom_69
  have h := he
  unfold ve_X3_solveFrom at h
  have hl : lv_has ls 5 [(0, .ref zh), (1, .int p1), (2, .ref va)] := hl
  refine lv_iload_n hx hb dX3_solveFrom_0 rfl (lv_at hl 1 rfl) ?_
  refine lv_if_lt (tgt := 18) hx hb dX3_solveFrom_1 (by decide) (fun c_18 => ?_) (fun c_18 => ?_)
  · have h := h.1 c_18
    refine lv_iconst (v := 1) hx hb dX3_solveFrom_18 (by decide) ?_
    exact hret 1 (f) _ _ _ _ _ _ (by decide) h (hP.sub [0, 1, 2] rfl) (hD.sub [0, 1, 2] (by decide) rfl) hS (Nat.le_of_ble_eq_true rfl) (Nat.le_of_ble_eq_true rfl) dX3_solveFrom_19
  · have h := h.2 c_18
    refine lv_iload_n hx hb dX3_solveFrom_4 rfl (lv_at hl 1 rfl) ?_
    refine lv_aload_n hx hb dX3_solveFrom_5 rfl (lv_at hl 0 rfl) ?_
    have hPc := hP.sub (ws' := [(zh, .inr (0, [.ref za, .int cc, .int ac, .int fc, .int lc])), (za, .inl (cI, 10, .inl f))]) [0, 1] rfl
    have hDc := hD.sub (ws' := [(zh, .inr (0, [.ref za, .int cc, .int ac, .int fc, .int lc])), (za, .inl (cI, 10, .inl f))]) [0, 1] (by decide) rfl
    refine ff_callI (va_runVN (As := []) (rest := [.int p1]) ⟨hx, hb, hml, hown, hts⟩ (c_X0_cellCount l D cI zh za H.size cc ac fc lc f) ⟨va_cnB 0 hts gX3_solveFrom_X0_cellCount_n15 rfl rfl rfl (ff_nm hN 5 rfl) (hts _ kX3_solveFrom_2) (by decide +kernel) ⟨ff_fr (by decide), ff_lo (by decide)⟩, (hts _ kX3_solveFrom_1), (hts _ kX3_solveFrom_3)⟩ (ff_preV (q := (RX0, TX0, 5)) (ci := 0) (q0 := 0) hPc hK hDc hN rfl rfl) rfl rfl hl.1 rfl (lv_room (Nat.le_of_ble_eq_true rfl)) dX3_solveFrom_6 ⟨Nat.le_of_ble_eq_true rfl, Nat.le_of_ble_eq_true rfl⟩) hP hD hS hA [0, 1] [2] (wr := [(va, .inl (cI, 12, .inl fnf))]) rfl rfl (by decide) (by decide) (fun r u H locs hw hP hD hS => ?_)
    replace hw := hw.symm
    subst hw
    have hP : va_P D vwCl [(va, .inl (cI, 12, .inl fnf)), (zh, .inr (0, [.ref za, .int cc, .int ac, .int fc, .int lc])), (za, .inl (cI, 10, .inl f))] H := hP
    have hD : va_D A [(va, .inl (cI, 12, .inl fnf)), (zh, .inr (0, [.ref za, .int cc, .int ac, .int fc, .int lc])), (za, .inl (cI, 10, .inl f))] := hD
    refine lv_icmp_ge (tgt := 18) hx hb dX3_solveFrom_9 (by decide) (fun c_19 => ?_) (fun c_19 => ?_)
    · have h := h.1 c_19
      refine lv_iconst (v := 1) hx hb dX3_solveFrom_18 (by decide) ?_
      exact hret 1 (f) _ _ _ _ _ _ (by decide) h (hP.sub [1, 2, 0] rfl) (hD.sub [1, 2, 0] (by decide) rfl) hS (Nat.le_of_ble_eq_true rfl) (Nat.le_of_ble_eq_true rfl) dX3_solveFrom_19
    · have h := h.2 c_19
      refine lv_iload_n hx hb dX3_solveFrom_12 rfl (lv_at hl 1 rfl) ?_
      refine lv_aload_n hx hb dX3_solveFrom_13 rfl (lv_at hl 2 rfl) ?_
      refine va_alen hx hb hK hP 0 0 rfl rfl (v := 12) rfl dX3_solveFrom_14 ?_
      refine lv_icmp_lt (tgt := 20) hx hb dX3_solveFrom_15 (by decide) (fun c_20 => ?_) (fun c_20 => ?_)
      · have h := h.1 c_20
        refine lv_aload_n hx hb dX3_solveFrom_20 rfl (lv_at hl 2 rfl) ?_
        refine lv_iload_n hx hb dX3_solveFrom_21 rfl (lv_at hl 1 rfl) ?_
        obtain ⟨i_21, h⟩ := h
        refine va_iald hx hb hK hP 0 0 rfl rfl i_21 dX3_solveFrom_22 ?_
        refine lv_topi (fun y_22 ey_22 => ?_)
        have h := h y_22 ey_22
        refine lv_istore_n (lv' := [(3, .int y_22), (0, .ref zh), (1, .int p1), (2, .ref va)]) hx hb dX3_solveFrom_23 rfl hl (by decide) rfl (fun ls hl => ?_)
        refine lv_iconst (v := 0) hx hb dX3_solveFrom_24 (by decide) ?_
        refine lv_istore (lv' := [(4, .int 0), (3, .int y_22), (0, .ref zh), (1, .int p1), (2, .ref va)]) hx hb dX3_solveFrom_25 hl (by decide) rfl (fun ls hl => ?_)
        exact L27 _ _ _ _ _ _ _ h (Nat.lt_succ_self _) (hP.sub [1, 2, 0] rfl) (hD.sub [1, 2, 0] (by decide) rfl) hS (lv_sub hl [2, 3, 4, 1, 0] rfl)
      · have h := h.2 c_20
        refine lv_iconst (v := 1) hx hb dX3_solveFrom_18 (by decide) ?_
        exact hret 1 (f) _ _ _ _ _ _ (by decide) h (hP.sub [1, 2, 0] rfl) (hD.sub [1, 2, 0] (by decide) rfl) hS (Nat.le_of_ble_eq_true rfl) (Nat.le_of_ble_eq_true rfl) dX3_solveFrom_19
theorem c_X3_solveFrom_all (l : Launch) (D : va_G) (cI : ClassId) : ∀ (d : Nat) (zh za va : Nat) (sz : Nat) (cc : Int32) (ac : Int32) (fc : Int32) (lc : Int32) (f : Nat → Int32) (fnf : Nat → Int32) (p1 : Int32) (hpre : zrq ac f fnf p1 d), Met l yX3_solveFrom wsX3_solveFrom (ff_rm d) (ff_Pc D [(cI, .int)] [.ref zh, .int p1, .ref va] ([(zh, .inr (0, [.ref za, .int cc, .int ac, .int fc, .int lc])), (za, .inl (cI, 10, .inl f)), (va, .inl (cI, 12, .inl fnf))] : va_W) sz) (va_Qi (fun (r : Int32) (u : (Nat → Int32)) => r = b2i (zsf cc ac fc lc f fnf p1).isSome ∧ u = ((zsf cc ac fc lc f fnf p1).getD f)) (fun (u : (Nat → Int32)) t => ff_B D [(cI, .int)] (va_A ([(zh, .inr (0, [.ref za, .int cc, .int ac, .int fc, .int lc])), (za, .inl (cI, 10, .inl f)), (va, .inl (cI, 12, .inl fnf))] : va_W) sz) [(zh, .inr (0, [.ref za, .int cc, .int ac, .int fc, .int lc])), (za, .inl (cI, 10, .inl u)), (va, .inl (cI, 12, .inl fnf))] t) (va_A ([(zh, .inr (0, [.ref za, .int cc, .int ac, .int fc, .int lc])), (za, .inl (cI, 10, .inl f)), (va, .inl (cI, 12, .inl fnf))] : va_W) sz)) 0 0 (va_A ([(zh, .inr (0, [.ref za, .int cc, .int ac, .int fc, .int lc])), (za, .inl (cI, 10, .inl f)), (va, .inl (cI, 12, .inl fnf))] : va_W) sz)
  | 0, zh, za, va, sz, cc, ac, fc, lc, f, fnf, p1, hpre => (pz_X3_solveFrom cc ac fc lc f fnf p1 hpre).elim
  | d + 1, zh, za, va, sz, cc, ac, fc, lc, f, fnf, p1, hpre => a_X3_solveFrom l D cI zh za va sz cc ac fc lc f fnf p1 d (c_X3_solveFrom_all l D cI d) _ (I_X3_solveFrom_27 cc ac fc lc f fnf p1 d) (mu_X3_solveFrom_27 cc ac fc lc f fnf p1 d) (pl_X3_solveFrom_27 cc ac fc lc f fnf p1 d hpre) (pe_X3_solveFrom cc ac fc lc f fnf p1 d hpre)
theorem c_X3_solveFrom (l : Launch) (D : va_G) (cI : ClassId) (zh za va : Nat) (sz : Nat) (cc : Int32) (ac : Int32) (fc : Int32) (lc : Int32) (f : Nat → Int32) (fnf : Nat → Int32) (p1 : Int32) (hpre : zrq ac f fnf p1 13) : Met l yX3_solveFrom wsX3_solveFrom ({ frames := 36, cells := 0, slots := 0, locals := 980 } : Room) (ff_Pc D [(cI, .int)] [.ref zh, .int p1, .ref va] ([(zh, .inr (0, [.ref za, .int cc, .int ac, .int fc, .int lc])), (za, .inl (cI, 10, .inl f)), (va, .inl (cI, 12, .inl fnf))] : va_W) sz) (va_Qi (fun (r : Int32) (u : (Nat → Int32)) => r = b2i (zsf cc ac fc lc f fnf p1).isSome ∧ u = ((zsf cc ac fc lc f fnf p1).getD f)) (fun (u : (Nat → Int32)) t => ff_B D [(cI, .int)] (va_A ([(zh, .inr (0, [.ref za, .int cc, .int ac, .int fc, .int lc])), (za, .inl (cI, 10, .inl f)), (va, .inl (cI, 12, .inl fnf))] : va_W) sz) [(zh, .inr (0, [.ref za, .int cc, .int ac, .int fc, .int lc])), (za, .inl (cI, 10, .inl u)), (va, .inl (cI, 12, .inl fnf))] t) (va_A ([(zh, .inr (0, [.ref za, .int cc, .int ac, .int fc, .int lc])), (za, .inl (cI, 10, .inl f)), (va, .inl (cI, 12, .inl fnf))] : va_W) sz)) 0 0 (va_A ([(zh, .inr (0, [.ref za, .int cc, .int ac, .int fc, .int lc])), (za, .inl (cI, 10, .inl f)), (va, .inl (cI, 12, .inl fnf))] : va_W) sz) := c_X3_solveFrom_all l D cI 13 zh za va sz cc ac fc lc f fnf p1 hpre
