theorem kJ6_bitCount_0f7a4_1 : (.constant RJ6 265 (1431655765) : Cond) ∈ wsJ6_bitCount_0f7a4 := List.mem_of_getElem? (i := 1) rfl
theorem kJ6_bitCount_0f7a4_2 : (.constant RJ6 266 (858993459) : Cond) ∈ wsJ6_bitCount_0f7a4 := List.mem_of_getElem? (i := 2) rfl
theorem kJ6_bitCount_0f7a4_3 : (.constant RJ6 267 (252645135) : Cond) ∈ wsJ6_bitCount_0f7a4 := List.mem_of_getElem? (i := 3) rfl
set_option maxHeartbeats 4000000 in
set_option maxRecDepth 100000 in
theorem a_J6_bitCount_0f7a4 (l : Launch) (D : va_G) (cI : ClassId) (sz : Nat) (p0 : Int32) (P : Int32 → Unit → Prop)  (he : ve_J6_bitCount_0f7a4 p0 P ) : Met l yJ6_bitCount_0f7a4 wsJ6_bitCount_0f7a4 ({ frames := 0, cells := 0, slots := 0, locals := 0 } : Room) (ff_Pc D [(cI, .int)] [.int p0] ([] : va_W) sz) (va_Qi P (fun (u : Unit) t => ff_B D [(cI, .int)] (va_A ([] : va_W) sz) [] t) (va_A ([] : va_W) sz)) 0 0 (va_A ([] : va_W) sz) := by
  refine ff_metI (Wf := (fun (u : Unit) => ([] : va_W))) (by decide +kernel) rfl (Nat.le_of_ble_eq_true rfl) ?_
  intro p e s m args below meth c A Q ls H hx hb hml hown hts hN hA hK hP hD hS hret hl
  have h := he
  unfold ve_J6_bitCount_0f7a4 at h
  have hl : lv_has ls 1 [(0, .int p0)] := hl
  refine lv_iload_n hx hb dJ6_bitCount_0f7a4_0 rfl (lv_at hl 0 rfl) ?_
  refine lv_iload_n hx hb dJ6_bitCount_0f7a4_1 rfl (lv_at hl 0 rfl) ?_
  refine lv_iconst (v := 1) hx hb dJ6_bitCount_0f7a4_2 (by decide) ?_
  refine lv_iushr hx hb dJ6_bitCount_0f7a4_3 rfl ?_
  refine lv_ldcw hx hb hown (hts _ kJ6_bitCount_0f7a4_1) dJ6_bitCount_0f7a4_4 ?_
  refine lv_iand hx hb dJ6_bitCount_0f7a4_7 ?_
  refine lv_isub hx hb dJ6_bitCount_0f7a4_8 ?_
  refine lv_topi (fun y_1 ey_1 => ?_)
  have h := h y_1 ey_1
  refine lv_istore_n (lv' := [(0, .int y_1)]) hx hb dJ6_bitCount_0f7a4_9 rfl hl (by decide) rfl (fun ls hl => ?_)
  refine lv_iload_n hx hb dJ6_bitCount_0f7a4_10 rfl (lv_at hl 0 rfl) ?_
  refine lv_ldcw hx hb hown (hts _ kJ6_bitCount_0f7a4_2) dJ6_bitCount_0f7a4_11 ?_
  refine lv_iand hx hb dJ6_bitCount_0f7a4_14 ?_
  refine lv_iload_n hx hb dJ6_bitCount_0f7a4_15 rfl (lv_at hl 0 rfl) ?_
  refine lv_iconst (v := 2) hx hb dJ6_bitCount_0f7a4_16 (by decide) ?_
  refine lv_iushr hx hb dJ6_bitCount_0f7a4_17 rfl ?_
  refine lv_ldcw hx hb hown (hts _ kJ6_bitCount_0f7a4_2) dJ6_bitCount_0f7a4_18 ?_
  refine lv_iand hx hb dJ6_bitCount_0f7a4_21 ?_
  refine lv_iadd hx hb dJ6_bitCount_0f7a4_22 ?_
  refine lv_topi (fun y_2 ey_2 => ?_)
  have h := h y_2 ey_2
  refine lv_istore_n (lv' := [(0, .int y_2)]) hx hb dJ6_bitCount_0f7a4_23 rfl hl (by decide) rfl (fun ls hl => ?_)
  refine lv_iload_n hx hb dJ6_bitCount_0f7a4_24 rfl (lv_at hl 0 rfl) ?_
  refine lv_iload_n hx hb dJ6_bitCount_0f7a4_25 rfl (lv_at hl 0 rfl) ?_
  refine lv_iconst (v := 4) hx hb dJ6_bitCount_0f7a4_26 (by decide) ?_
  refine lv_iushr hx hb dJ6_bitCount_0f7a4_27 rfl ?_
  refine lv_iadd hx hb dJ6_bitCount_0f7a4_28 ?_
  refine lv_ldcw hx hb hown (hts _ kJ6_bitCount_0f7a4_3) dJ6_bitCount_0f7a4_29 ?_
  refine lv_iand hx hb dJ6_bitCount_0f7a4_32 ?_
  refine lv_topi (fun y_3 ey_3 => ?_)
  have h := h y_3 ey_3
  refine lv_istore_n (lv' := [(0, .int y_3)]) hx hb dJ6_bitCount_0f7a4_33 rfl hl (by decide) rfl (fun ls hl => ?_)
  refine lv_iload_n hx hb dJ6_bitCount_0f7a4_34 rfl (lv_at hl 0 rfl) ?_
  refine lv_iload_n hx hb dJ6_bitCount_0f7a4_35 rfl (lv_at hl 0 rfl) ?_
  refine lv_bipush (v := 8) hx hb dJ6_bitCount_0f7a4_36 (by decide) ?_
  refine lv_iushr hx hb dJ6_bitCount_0f7a4_38 rfl ?_
  refine lv_iadd hx hb dJ6_bitCount_0f7a4_39 ?_
  refine lv_topi (fun y_4 ey_4 => ?_)
  have h := h y_4 ey_4
  refine lv_istore_n (lv' := [(0, .int y_4)]) hx hb dJ6_bitCount_0f7a4_40 rfl hl (by decide) rfl (fun ls hl => ?_)
  refine lv_iload_n hx hb dJ6_bitCount_0f7a4_41 rfl (lv_at hl 0 rfl) ?_
  refine lv_iload_n hx hb dJ6_bitCount_0f7a4_42 rfl (lv_at hl 0 rfl) ?_
  refine lv_bipush (v := 16) hx hb dJ6_bitCount_0f7a4_43 (by decide) ?_
  refine lv_iushr hx hb dJ6_bitCount_0f7a4_45 rfl ?_
  refine lv_iadd hx hb dJ6_bitCount_0f7a4_46 ?_
  refine lv_topi (fun y_5 ey_5 => ?_)
  have h := h y_5 ey_5
  refine lv_istore_n (lv' := [(0, .int y_5)]) hx hb dJ6_bitCount_0f7a4_47 rfl hl (by decide) rfl (fun ls hl => ?_)
  refine lv_iload_n hx hb dJ6_bitCount_0f7a4_48 rfl (lv_at hl 0 rfl) ?_
  refine lv_bipush (v := 63) hx hb dJ6_bitCount_0f7a4_49 (by decide) ?_
  refine lv_iand hx hb dJ6_bitCount_0f7a4_51 ?_
  exact hret (y_5 &&& 63) () _ _ _ _ _ _ h (hP.sub [] rfl) (hD.sub [] (by decide) rfl) hS (Nat.le_of_ble_eq_true rfl) (Nat.le_of_ble_eq_true rfl) dJ6_bitCount_0f7a4_52
theorem c_J6_bitCount_0f7a4 (l : Launch) (D : va_G) (cI : ClassId) (sz : Nat) (p0 : Int32) : Met l yJ6_bitCount_0f7a4 wsJ6_bitCount_0f7a4 ({ frames := 0, cells := 0, slots := 0, locals := 0 } : Room) (ff_Pc D [(cI, .int)] [.int p0] ([] : va_W) sz) (va_Qi (fun (r : Int32) (u : Unit) => r = bc p0) (fun (u : Unit) t => ff_B D [(cI, .int)] (va_A ([] : va_W) sz) [] t) (va_A ([] : va_W) sz)) 0 0 (va_A ([] : va_W) sz) :=
  a_J6_bitCount_0f7a4 l D cI  sz p0 _  (pe_J6_bitCount_0f7a4 p0)
set_option maxHeartbeats 4000000 in
set_option maxRecDepth 100000 in
theorem a_J9_floorMod_7cf53 (l : Launch) (D : va_G) (cI : ClassId) (sz : Nat) (p0 : Int32) (p1 : Int32) (P : Int32 → Unit → Prop)  (he : ve_J9_floorMod_7cf53 p0 p1 P ) : Met l yJ9_floorMod_7cf53 wsJ9_floorMod_7cf53 ({ frames := 0, cells := 0, slots := 0, locals := 0 } : Room) (ff_Pc D [(cI, .int)] [.int p0, .int p1] ([] : va_W) sz) (va_Qi P (fun (u : Unit) t => ff_B D [(cI, .int)] (va_A ([] : va_W) sz) [] t) (va_A ([] : va_W) sz)) 0 0 (va_A ([] : va_W) sz) := by
  refine ff_metI (Wf := (fun (u : Unit) => ([] : va_W))) (by decide +kernel) rfl (Nat.le_of_ble_eq_true rfl) ?_
  intro p e s m args below meth c A Q ls H hx hb hml hown hts hN hA hK hP hD hS hret hl
  have h := he
  unfold ve_J9_floorMod_7cf53 at h
  have hl : lv_has ls 3 [(0, .int p0), (1, .int p1)] := hl
  refine lv_iload_n hx hb dJ9_floorMod_7cf53_0 rfl (lv_at hl 0 rfl) ?_
  refine lv_iload_n hx hb dJ9_floorMod_7cf53_1 rfl (lv_at hl 1 rfl) ?_
  obtain ⟨n_1, h⟩ := h
  refine lv_irem hx hb dJ9_floorMod_7cf53_2 n_1 ?_
  refine lv_topi (fun y_2 ey_2 => ?_)
  have h := h y_2 ey_2
  refine lv_istore_n (lv' := [(2, .int y_2), (0, .int p0), (1, .int p1)]) hx hb dJ9_floorMod_7cf53_3 rfl hl (by decide) rfl (fun ls hl => ?_)
  refine lv_iload_n hx hb dJ9_floorMod_7cf53_4 rfl (lv_at hl 1 rfl) ?_
  refine lv_iload_n hx hb dJ9_floorMod_7cf53_5 rfl (lv_at hl 2 rfl) ?_
  refine lv_ixor hx hb dJ9_floorMod_7cf53_6 ?_
  refine lv_if_ge (tgt := 18) hx hb dJ9_floorMod_7cf53_7 (by decide) (fun c_3 => ?_) (fun c_3 => ?_)
  · have h := h.1 c_3
    refine lv_iload_n hx hb dJ9_floorMod_7cf53_18 rfl (lv_at hl 0 rfl) ?_
    exact hret y_2 () _ _ _ _ _ _ h (hP.sub [] rfl) (hD.sub [] (by decide) rfl) hS (Nat.le_of_ble_eq_true rfl) (Nat.le_of_ble_eq_true rfl) dJ9_floorMod_7cf53_19
  · have h := h.2 c_3
    refine lv_iload_n hx hb dJ9_floorMod_7cf53_10 rfl (lv_at hl 0 rfl) ?_
    refine lv_if_eq (tgt := 18) hx hb dJ9_floorMod_7cf53_11 (by decide) (fun c_4 => ?_) (fun c_4 => ?_)
    · have h := h.1 c_4
      refine lv_iload_n hx hb dJ9_floorMod_7cf53_18 rfl (lv_at hl 0 rfl) ?_
      exact hret y_2 () _ _ _ _ _ _ h (hP.sub [] rfl) (hD.sub [] (by decide) rfl) hS (Nat.le_of_ble_eq_true rfl) (Nat.le_of_ble_eq_true rfl) dJ9_floorMod_7cf53_19
    · have h := h.2 c_4
      refine lv_iload_n hx hb dJ9_floorMod_7cf53_14 rfl (lv_at hl 0 rfl) ?_
      refine lv_iload_n hx hb dJ9_floorMod_7cf53_15 rfl (lv_at hl 2 rfl) ?_
      refine lv_iadd hx hb dJ9_floorMod_7cf53_16 ?_
      exact hret (y_2 + p1) () _ _ _ _ _ _ h (hP.sub [] rfl) (hD.sub [] (by decide) rfl) hS (Nat.le_of_ble_eq_true rfl) (Nat.le_of_ble_eq_true rfl) dJ9_floorMod_7cf53_17
theorem c_J9_floorMod_7cf53 (l : Launch) (D : va_G) (cI : ClassId) (sz : Nat) (p0 : Int32) (p1 : Int32) (hpre : ¬ p1 = 0) : Met l yJ9_floorMod_7cf53 wsJ9_floorMod_7cf53 ({ frames := 0, cells := 0, slots := 0, locals := 0 } : Room) (ff_Pc D [(cI, .int)] [.int p0, .int p1] ([] : va_W) sz) (va_Qi (fun (r : Int32) (u : Unit) => r = zfm p0 p1) (fun (u : Unit) t => ff_B D [(cI, .int)] (va_A ([] : va_W) sz) [] t) (va_A ([] : va_W) sz)) 0 0 (va_A ([] : va_W) sz) :=
  a_J9_floorMod_7cf53 l D cI  sz p0 p1 _  (pe_J9_floorMod_7cf53 p0 p1 hpre)
set_option maxHeartbeats 4000000 in
set_option maxRecDepth 100000 in
theorem a_X0_bit (l : Launch) (D : va_G) (cI : ClassId) (sz : Nat) (p0 : Int32) (P : Int32 → Unit → Prop)  (he : ve_X0_bit p0 P ) : Met l yX0_bit wsX0_bit ({ frames := 0, cells := 0, slots := 0, locals := 0 } : Room) (ff_Pc D [(cI, .int)] [.int p0] ([] : va_W) sz) (va_Qi P (fun (u : Unit) t => ff_B D [(cI, .int)] (va_A ([] : va_W) sz) [] t) (va_A ([] : va_W) sz)) 0 0 (va_A ([] : va_W) sz) := by
  refine ff_metI (Wf := (fun (u : Unit) => ([] : va_W))) (by decide +kernel) rfl (Nat.le_of_ble_eq_true rfl) ?_
  intro p e s m args below meth c A Q ls H hx hb hml hown hts hN hA hK hP hD hS hret hl
  have h := he
  unfold ve_X0_bit at h
  have hl : lv_has ls 1 [(0, .int p0)] := hl
  refine lv_iconst (v := 1) hx hb dX0_bit_0 (by decide) ?_
  refine lv_iload_n hx hb dX0_bit_1 rfl (lv_at hl 0 rfl) ?_
  refine lv_ishl hx hb dX0_bit_2 ?_
  exact hret (1 <<< (p0 &&& 31)) () _ _ _ _ _ _ h (hP.sub [] rfl) (hD.sub [] (by decide) rfl) hS (Nat.le_of_ble_eq_true rfl) (Nat.le_of_ble_eq_true rfl) dX0_bit_3
theorem c_X0_bit (l : Launch) (D : va_G) (cI : ClassId) (sz : Nat) (p0 : Int32) : Met l yX0_bit wsX0_bit ({ frames := 0, cells := 0, slots := 0, locals := 0 } : Room) (ff_Pc D [(cI, .int)] [.int p0] ([] : va_W) sz) (va_Qi (fun (r : Int32) (u : Unit) => r = zbit p0) (fun (u : Unit) t => ff_B D [(cI, .int)] (va_A ([] : va_W) sz) [] t) (va_A ([] : va_W) sz)) 0 0 (va_A ([] : va_W) sz) :=
  a_X0_bit l D cI  sz p0 _  (pe_X0_bit p0)
set_option maxHeartbeats 4000000 in
set_option maxRecDepth 100000 in
theorem a_X0_has (l : Launch) (D : va_G) (cI : ClassId) (sz : Nat) (p0 : Int32) (p1 : Int32) (P : Int32 → Unit → Prop)  (he : ve_X0_has p0 p1 P ) : Met l yX0_has wsX0_has ({ frames := 1, cells := 0, slots := 0, locals := 20 } : Room) (ff_Pc D [(cI, .int)] [.int p0, .int p1] ([] : va_W) sz) (va_Qi P (fun (u : Unit) t => ff_B D [(cI, .int)] (va_A ([] : va_W) sz) [] t) (va_A ([] : va_W) sz)) 0 0 (va_A ([] : va_W) sz) := by
  refine ff_metZ (Wf := (fun (u : Unit) => ([] : va_W))) (by decide +kernel) rfl (Nat.le_of_ble_eq_true rfl) ?_
  intro p e s m args below meth c A Q ls H hx hb hml hown hts hN hA hK hP hD hS hret hl
  have h := he
  unfold ve_X0_has at h
  have hl : lv_has ls 2 [(0, .int p0), (1, .int p1)] := hl
  refine lv_iload_n hx hb dX0_has_0 rfl (lv_at hl 0 rfl) ?_
  refine lv_iload_n hx hb dX0_has_1 rfl (lv_at hl 1 rfl) ?_
  have hPc := hP.sub (ws' := []) [] rfl
  have hDc := hD.sub (ws' := []) [] (by decide) rfl
  refine ff_callI (va_runS (As := [.int p1]) (rest := [.int p0]) ⟨hx, hb, hml, hown, hts⟩ (c_X0_bit l D cI H.size p1) (va_cwS 1 hts gX0_has_X0_bit rfl rfl rfl (by decide +kernel) ⟨Nat.le_of_ble_eq_true rfl, Nat.le_of_ble_eq_true rfl⟩) (ff_preS hPc hK hDc hN) rfl rfl hl.1 rfl (lv_room (Nat.le_of_ble_eq_true rfl)) dX0_has_2 ⟨Nat.le_of_ble_eq_true rfl, Nat.le_of_ble_eq_true rfl⟩) hP hD hS hA [] [] (wr := []) rfl rfl (by decide) (by decide) (fun r u H locs hw hP hD hS => ?_)
  replace hw := hw.symm
  subst hw
  have hP : va_P D vwCl [] H := hP
  have hD : va_D A [] := hD
  refine lv_iand hx hb dX0_has_5 ?_
  refine lv_if_eq (tgt := 13) hx hb dX0_has_6 (by decide) (fun c_1 => ?_) (fun c_1 => ?_)
  · have h := h.1 c_1
    refine lv_iconst (v := 0) hx hb dX0_has_13 (by decide) ?_
    exact hret 0 () _ _ _ _ _ _ (by decide) h (hP.sub [] rfl) (hD.sub [] (by decide) rfl) hS (Nat.le_of_ble_eq_true rfl) (Nat.le_of_ble_eq_true rfl) dX0_has_14
  · have h := h.2 c_1
    refine lv_iconst (v := 1) hx hb dX0_has_9 (by decide) ?_
    refine lv_goto (tgt := 14) hx hb dX0_has_10 (by decide) ?_
    exact hret 1 () _ _ _ _ _ _ (by decide) h (hP.sub [] rfl) (hD.sub [] (by decide) rfl) hS (Nat.le_of_ble_eq_true rfl) (Nat.le_of_ble_eq_true rfl) dX0_has_14
theorem c_X0_has (l : Launch) (D : va_G) (cI : ClassId) (sz : Nat) (p0 : Int32) (p1 : Int32) : Met l yX0_has wsX0_has ({ frames := 1, cells := 0, slots := 0, locals := 20 } : Room) (ff_Pc D [(cI, .int)] [.int p0, .int p1] ([] : va_W) sz) (va_Qi (fun (r : Int32) (u : Unit) => r = b2i (zhas p0 p1)) (fun (u : Unit) t => ff_B D [(cI, .int)] (va_A ([] : va_W) sz) [] t) (va_A ([] : va_W) sz)) 0 0 (va_A ([] : va_W) sz) :=
  a_X0_has l D cI  sz p0 p1 _  (pe_X0_has p0 p1)
set_option maxHeartbeats 4000000 in
set_option maxRecDepth 100000 in
theorem a_X0_lowest (l : Launch) (D : va_G) (cI : ClassId) (sz : Nat) (p0 : Int32) (P : Int32 → Unit → Prop)  (he : ve_X0_lowest p0 P ) : Met l yX0_lowest wsX0_lowest ({ frames := 0, cells := 0, slots := 0, locals := 0 } : Room) (ff_Pc D [(cI, .int)] [.int p0] ([] : va_W) sz) (va_Qi P (fun (u : Unit) t => ff_B D [(cI, .int)] (va_A ([] : va_W) sz) [] t) (va_A ([] : va_W) sz)) 0 0 (va_A ([] : va_W) sz) := by
  refine ff_metI (Wf := (fun (u : Unit) => ([] : va_W))) (by decide +kernel) rfl (Nat.le_of_ble_eq_true rfl) ?_
  intro p e s m args below meth c A Q ls H hx hb hml hown hts hN hA hK hP hD hS hret hl
  have h := he
  unfold ve_X0_lowest at h
  have hl : lv_has ls 1 [(0, .int p0)] := hl
  refine lv_iload_n hx hb dX0_lowest_0 rfl (lv_at hl 0 rfl) ?_
  refine lv_iload_n hx hb dX0_lowest_1 rfl (lv_at hl 0 rfl) ?_
  refine lv_ineg hx hb dX0_lowest_2 ?_
  refine lv_iand hx hb dX0_lowest_3 ?_
  exact hret (p0 &&& (-p0)) () _ _ _ _ _ _ h (hP.sub [] rfl) (hD.sub [] (by decide) rfl) hS (Nat.le_of_ble_eq_true rfl) (Nat.le_of_ble_eq_true rfl) dX0_lowest_4
theorem c_X0_lowest (l : Launch) (D : va_G) (cI : ClassId) (sz : Nat) (p0 : Int32) : Met l yX0_lowest wsX0_lowest ({ frames := 0, cells := 0, slots := 0, locals := 0 } : Room) (ff_Pc D [(cI, .int)] [.int p0] ([] : va_W) sz) (va_Qi (fun (r : Int32) (u : Unit) => r = zlow p0) (fun (u : Unit) t => ff_B D [(cI, .int)] (va_A ([] : va_W) sz) [] t) (va_A ([] : va_W) sz)) 0 0 (va_A ([] : va_W) sz) :=
  a_X0_lowest l D cI  sz p0 _  (pe_X0_lowest p0)
theorem kX0_cellCount_1 : (.fieldLink RX0 27 "FieldFiller$Board" "allCells" "I" : Cond) ∈ wsX0_cellCount := List.mem_of_getElem? (i := 1) rfl
theorem nX0_cellCount_wsX00 : ∀ w ∈ wsX00, w ∈ wsX0_cellCount := (fun w h => List.mem_cons_of_mem _ (List.mem_append_right _ h))
set_option maxHeartbeats 4000000 in
set_option maxRecDepth 100000 in
theorem a_X0_cellCount (l : Launch) (D : va_G) (cI : ClassId) (zh za : Nat) (sz : Nat) (cc : Int32) (ac : Int32) (fc : Int32) (lc : Int32) (f : Nat → Int32) (P : Int32 → Unit → Prop)  (he : ve_X0_cellCount cc ac fc lc f P ) : Met l yX0_cellCount wsX0_cellCount ({ frames := 1, cells := 0, slots := 0, locals := 20 } : Room) (ff_Pc D [(cI, .int)] [.ref zh] ([(zh, .inr (0, [.ref za, .int cc, .int ac, .int fc, .int lc])), (za, .inl (cI, 10, .inl f))] : va_W) sz) (va_Qi P (fun (u : Unit) t => ff_B D [(cI, .int)] (va_A ([(zh, .inr (0, [.ref za, .int cc, .int ac, .int fc, .int lc])), (za, .inl (cI, 10, .inl f))] : va_W) sz) [(zh, .inr (0, [.ref za, .int cc, .int ac, .int fc, .int lc])), (za, .inl (cI, 10, .inl f))] t) (va_A ([(zh, .inr (0, [.ref za, .int cc, .int ac, .int fc, .int lc])), (za, .inl (cI, 10, .inl f))] : va_W) sz)) 0 0 (va_A ([(zh, .inr (0, [.ref za, .int cc, .int ac, .int fc, .int lc])), (za, .inl (cI, 10, .inl f))] : va_W) sz) := by
  refine ff_metI (Wf := (fun (u : Unit) => ([(zh, .inr (0, [.ref za, .int cc, .int ac, .int fc, .int lc])), (za, .inl (cI, 10, .inl f))] : va_W))) (by decide +kernel) rfl (Nat.le_of_ble_eq_true rfl) ?_
  intro p e s m args below meth c A Q ls H hx hb hml hown hts hN hA hK hP hD hS hret hl
  have h := he
  unfold ve_X0_cellCount at h
  have hl : lv_has ls 1 [(0, .ref zh)] := hl
  refine lv_aload_n hx hb dX0_cellCount_0 rfl (lv_at hl 0 rfl) ?_
  refine va_get (D := D) (ci := 0) (v := .int ac) (C := RX0) (T := TX0) (N := 5) hx hb hts nX0_cellCount_wsX00 hown hK hP 0 rfl rfl 2 (by decide) (hts _ kX0_cellCount_1) (fun _ h9 => h9) rfl dX0_cellCount_1 ?_
  have hPc := hP.sub (ws' := []) [] rfl
  have hDc := hD.sub (ws' := []) [] (by decide) rfl
  refine ff_callI (va_runS (As := [.int ac]) (rest := []) ⟨hx, hb, hml, hown, hts⟩ (c_J6_bitCount_0f7a4 l D cI H.size ac) (va_cwS 1 hts gX0_cellCount_J6_bitCount_0f7a4 rfl rfl rfl (by decide +kernel) ⟨Nat.le_of_ble_eq_true rfl, Nat.le_of_ble_eq_true rfl⟩) (ff_preS hPc hK hDc hN) rfl rfl hl.1 rfl (lv_room (Nat.le_of_ble_eq_true rfl)) dX0_cellCount_4 ⟨Nat.le_of_ble_eq_true rfl, Nat.le_of_ble_eq_true rfl⟩) hP hD hS hA [] [0, 1] (wr := [(zh, .inr (0, [.ref za, .int cc, .int ac, .int fc, .int lc])), (za, .inl (cI, 10, .inl f))]) rfl rfl (by decide) (by decide) (fun r u H locs hw hP hD hS => ?_)
  replace hw := hw.symm
  subst hw
  have hP : va_P D vwCl [(zh, .inr (0, [.ref za, .int cc, .int ac, .int fc, .int lc])), (za, .inl (cI, 10, .inl f))] H := hP
  have hD : va_D A [(zh, .inr (0, [.ref za, .int cc, .int ac, .int fc, .int lc])), (za, .inl (cI, 10, .inl f))] := hD
  exact hret (bc ac) () _ _ _ _ _ _ h (hP.sub [0, 1] rfl) (hD.sub [0, 1] (by decide) rfl) hS (Nat.le_of_ble_eq_true rfl) (Nat.le_of_ble_eq_true rfl) dX0_cellCount_7
theorem c_X0_cellCount (l : Launch) (D : va_G) (cI : ClassId) (zh za : Nat) (sz : Nat) (cc : Int32) (ac : Int32) (fc : Int32) (lc : Int32) (f : Nat → Int32) : Met l yX0_cellCount wsX0_cellCount ({ frames := 1, cells := 0, slots := 0, locals := 20 } : Room) (ff_Pc D [(cI, .int)] [.ref zh] ([(zh, .inr (0, [.ref za, .int cc, .int ac, .int fc, .int lc])), (za, .inl (cI, 10, .inl f))] : va_W) sz) (va_Qi (fun (r : Int32) (u : Unit) => r = bc ac) (fun (u : Unit) t => ff_B D [(cI, .int)] (va_A ([(zh, .inr (0, [.ref za, .int cc, .int ac, .int fc, .int lc])), (za, .inl (cI, 10, .inl f))] : va_W) sz) [(zh, .inr (0, [.ref za, .int cc, .int ac, .int fc, .int lc])), (za, .inl (cI, 10, .inl f))] t) (va_A ([(zh, .inr (0, [.ref za, .int cc, .int ac, .int fc, .int lc])), (za, .inl (cI, 10, .inl f))] : va_W) sz)) 0 0 (va_A ([(zh, .inr (0, [.ref za, .int cc, .int ac, .int fc, .int lc])), (za, .inl (cI, 10, .inl f))] : va_W) sz) :=
  a_X0_cellCount l D cI zh za sz cc ac fc lc f _  (pe_X0_cellCount cc ac fc lc f)
theorem kX0_cellsWith_1 : (.fieldLink RX0 9 "FieldFiller$Board" "byNumber" "[I" : Cond) ∈ wsX0_cellsWith := List.mem_of_getElem? (i := 1) rfl
theorem nX0_cellsWith_wsX00 : ∀ w ∈ wsX00, w ∈ wsX0_cellsWith := (fun w h => List.mem_cons_of_mem _ (List.mem_append_right _ h))
set_option maxHeartbeats 4000000 in
set_option maxRecDepth 100000 in
theorem a_X0_cellsWith (l : Launch) (D : va_G) (cI : ClassId) (zh za : Nat) (sz : Nat) (cc : Int32) (ac : Int32) (fc : Int32) (lc : Int32) (f : Nat → Int32) (p1 : Int32) (P : Int32 → Unit → Prop)  (he : ve_X0_cellsWith cc ac fc lc f p1 P ) : Met l yX0_cellsWith wsX0_cellsWith ({ frames := 0, cells := 0, slots := 0, locals := 0 } : Room) (ff_Pc D [(cI, .int)] [.ref zh, .int p1] ([(zh, .inr (0, [.ref za, .int cc, .int ac, .int fc, .int lc])), (za, .inl (cI, 10, .inl f))] : va_W) sz) (va_Qi P (fun (u : Unit) t => ff_B D [(cI, .int)] (va_A ([(zh, .inr (0, [.ref za, .int cc, .int ac, .int fc, .int lc])), (za, .inl (cI, 10, .inl f))] : va_W) sz) [(zh, .inr (0, [.ref za, .int cc, .int ac, .int fc, .int lc])), (za, .inl (cI, 10, .inl f))] t) (va_A ([(zh, .inr (0, [.ref za, .int cc, .int ac, .int fc, .int lc])), (za, .inl (cI, 10, .inl f))] : va_W) sz)) 0 0 (va_A ([(zh, .inr (0, [.ref za, .int cc, .int ac, .int fc, .int lc])), (za, .inl (cI, 10, .inl f))] : va_W) sz) := by
  refine ff_metI (Wf := (fun (u : Unit) => ([(zh, .inr (0, [.ref za, .int cc, .int ac, .int fc, .int lc])), (za, .inl (cI, 10, .inl f))] : va_W))) (by decide +kernel) rfl (Nat.le_of_ble_eq_true rfl) ?_
  intro p e s m args below meth c A Q ls H hx hb hml hown hts hN hA hK hP hD hS hret hl
  have h := he
  unfold ve_X0_cellsWith at h
  have hl : lv_has ls 2 [(0, .ref zh), (1, .int p1)] := hl
  refine lv_iload_n hx hb dX0_cellsWith_0 rfl (lv_at hl 1 rfl) ?_
  refine lv_if_lt (tgt := 22) hx hb dX0_cellsWith_1 (by decide) (fun c_1 => ?_) (fun c_1 => ?_)
  · have h := h.1 c_1
    refine lv_iconst (v := 0) hx hb dX0_cellsWith_22 (by decide) ?_
    exact hret 0 () _ _ _ _ _ _ h (hP.sub [0, 1] rfl) (hD.sub [0, 1] (by decide) rfl) hS (Nat.le_of_ble_eq_true rfl) (Nat.le_of_ble_eq_true rfl) dX0_cellsWith_23
  · have h := h.2 c_1
    refine lv_iload_n hx hb dX0_cellsWith_4 rfl (lv_at hl 1 rfl) ?_
    refine lv_aload_n hx hb dX0_cellsWith_5 rfl (lv_at hl 0 rfl) ?_
    refine va_get (D := D) (ci := 0) (v := .ref za) (C := RX0) (T := TX0) (N := 5) hx hb hts nX0_cellsWith_wsX00 hown hK hP 0 rfl rfl 0 (by decide) (hts _ kX0_cellsWith_1) (fun _ h9 => h9) rfl dX0_cellsWith_6 ?_
    refine va_alen hx hb hK hP 1 0 rfl rfl (v := 10) rfl dX0_cellsWith_9 ?_
    refine lv_icmp_ge (tgt := 22) hx hb dX0_cellsWith_10 (by decide) (fun c_2 => ?_) (fun c_2 => ?_)
    · have h := h.1 c_2
      refine lv_iconst (v := 0) hx hb dX0_cellsWith_22 (by decide) ?_
      exact hret 0 () _ _ _ _ _ _ h (hP.sub [0, 1] rfl) (hD.sub [0, 1] (by decide) rfl) hS (Nat.le_of_ble_eq_true rfl) (Nat.le_of_ble_eq_true rfl) dX0_cellsWith_23
    · have h := h.2 c_2
      refine lv_aload_n hx hb dX0_cellsWith_13 rfl (lv_at hl 0 rfl) ?_
      refine va_get (D := D) (ci := 0) (v := .ref za) (C := RX0) (T := TX0) (N := 5) hx hb hts nX0_cellsWith_wsX00 hown hK hP 0 rfl rfl 0 (by decide) (hts _ kX0_cellsWith_1) (fun _ h9 => h9) rfl dX0_cellsWith_14 ?_
      refine lv_iload_n hx hb dX0_cellsWith_17 rfl (lv_at hl 1 rfl) ?_
      obtain ⟨i_3, h⟩ := h
      refine va_iald hx hb hK hP 1 0 rfl rfl i_3 dX0_cellsWith_18 ?_
      refine lv_goto (tgt := 23) hx hb dX0_cellsWith_19 (by decide) ?_
      exact hret (f p1.toNatClampNeg) () _ _ _ _ _ _ h (hP.sub [0, 1] rfl) (hD.sub [0, 1] (by decide) rfl) hS (Nat.le_of_ble_eq_true rfl) (Nat.le_of_ble_eq_true rfl) dX0_cellsWith_23
theorem c_X0_cellsWith (l : Launch) (D : va_G) (cI : ClassId) (zh za : Nat) (sz : Nat) (cc : Int32) (ac : Int32) (fc : Int32) (lc : Int32) (f : Nat → Int32) (p1 : Int32) : Met l yX0_cellsWith wsX0_cellsWith ({ frames := 0, cells := 0, slots := 0, locals := 0 } : Room) (ff_Pc D [(cI, .int)] [.ref zh, .int p1] ([(zh, .inr (0, [.ref za, .int cc, .int ac, .int fc, .int lc])), (za, .inl (cI, 10, .inl f))] : va_W) sz) (va_Qi (fun (r : Int32) (u : Unit) => r = zcw f p1) (fun (u : Unit) t => ff_B D [(cI, .int)] (va_A ([(zh, .inr (0, [.ref za, .int cc, .int ac, .int fc, .int lc])), (za, .inl (cI, 10, .inl f))] : va_W) sz) [(zh, .inr (0, [.ref za, .int cc, .int ac, .int fc, .int lc])), (za, .inl (cI, 10, .inl f))] t) (va_A ([(zh, .inr (0, [.ref za, .int cc, .int ac, .int fc, .int lc])), (za, .inl (cI, 10, .inl f))] : va_W) sz)) 0 0 (va_A ([(zh, .inr (0, [.ref za, .int cc, .int ac, .int fc, .int lc])), (za, .inl (cI, 10, .inl f))] : va_W) sz) :=
  a_X0_cellsWith l D cI zh za sz cc ac fc lc f p1 _  (pe_X0_cellsWith cc ac fc lc f p1)
set_option maxHeartbeats 4000000 in
set_option maxRecDepth 100000 in
theorem a_X0_emptyCells (l : Launch) (D : va_G) (cI : ClassId) (zh za : Nat) (sz : Nat) (cc : Int32) (ac : Int32) (fc : Int32) (lc : Int32) (f : Nat → Int32) (P : Int32 → Unit → Prop)  (he : ve_X0_emptyCells cc ac fc lc f P ) : Met l yX0_emptyCells wsX0_emptyCells ({ frames := 1, cells := 0, slots := 0, locals := 21 } : Room) (ff_Pc D [(cI, .int)] [.ref zh] ([(zh, .inr (0, [.ref za, .int cc, .int ac, .int fc, .int lc])), (za, .inl (cI, 10, .inl f))] : va_W) sz) (va_Qi P (fun (u : Unit) t => ff_B D [(cI, .int)] (va_A ([(zh, .inr (0, [.ref za, .int cc, .int ac, .int fc, .int lc])), (za, .inl (cI, 10, .inl f))] : va_W) sz) [(zh, .inr (0, [.ref za, .int cc, .int ac, .int fc, .int lc])), (za, .inl (cI, 10, .inl f))] t) (va_A ([(zh, .inr (0, [.ref za, .int cc, .int ac, .int fc, .int lc])), (za, .inl (cI, 10, .inl f))] : va_W) sz)) 0 0 (va_A ([(zh, .inr (0, [.ref za, .int cc, .int ac, .int fc, .int lc])), (za, .inl (cI, 10, .inl f))] : va_W) sz) := by
  refine ff_metI (Wf := (fun (u : Unit) => ([(zh, .inr (0, [.ref za, .int cc, .int ac, .int fc, .int lc])), (za, .inl (cI, 10, .inl f))] : va_W))) (by decide +kernel) rfl (Nat.le_of_ble_eq_true rfl) ?_
  intro p e s m args below meth c A Q ls H hx hb hml hown hts hN hA hK hP hD hS hret hl
  have h := he
  unfold ve_X0_emptyCells at h
  have hl : lv_has ls 1 [(0, .ref zh)] := hl
  refine lv_aload_n hx hb dX0_emptyCells_0 rfl (lv_at hl 0 rfl) ?_
  refine lv_iconst (v := 0) hx hb dX0_emptyCells_1 (by decide) ?_
  have hPc := hP.sub (ws' := [(zh, .inr (0, [.ref za, .int cc, .int ac, .int fc, .int lc])), (za, .inl (cI, 10, .inl f))]) [0, 1] rfl
  have hDc := hD.sub (ws' := [(zh, .inr (0, [.ref za, .int cc, .int ac, .int fc, .int lc])), (za, .inl (cI, 10, .inl f))]) [0, 1] (by decide) rfl
  refine ff_callI (va_runV (As := [.int 0]) (rest := []) ⟨hx, hb, hml, hown, hts⟩ (c_X0_cellsWith l D cI zh za H.size cc ac fc lc f 0) (cwV 1 hts gX0_emptyCells_X0_cellsWith rfl rfl rfl (by decide +kernel) ⟨Nat.le_of_ble_eq_true rfl, Nat.le_of_ble_eq_true rfl⟩) (ff_preV (q := (RX0, TX0, 5)) (ci := 0) (q0 := 0) hPc hK hDc hN rfl rfl) rfl rfl hl.1 rfl (lv_room (Nat.le_of_ble_eq_true rfl)) dX0_emptyCells_2 ⟨Nat.le_of_ble_eq_true rfl, Nat.le_of_ble_eq_true rfl⟩) hP hD hS hA [0, 1] [] (wr := []) rfl rfl (by decide) (by decide) (fun r u H locs hw hP hD hS => ?_)
  replace hw := hw.symm
  subst hw
  have hP : va_P D vwCl [(zh, .inr (0, [.ref za, .int cc, .int ac, .int fc, .int lc])), (za, .inl (cI, 10, .inl f))] H := hP
  have hD : va_D A [(zh, .inr (0, [.ref za, .int cc, .int ac, .int fc, .int lc])), (za, .inl (cI, 10, .inl f))] := hD
  exact hret (zcw f 0) () _ _ _ _ _ _ h (hP.sub [0, 1] rfl) (hD.sub [0, 1] (by decide) rfl) hS (Nat.le_of_ble_eq_true rfl) (Nat.le_of_ble_eq_true rfl) dX0_emptyCells_5
theorem c_X0_emptyCells (l : Launch) (D : va_G) (cI : ClassId) (zh za : Nat) (sz : Nat) (cc : Int32) (ac : Int32) (fc : Int32) (lc : Int32) (f : Nat → Int32) : Met l yX0_emptyCells wsX0_emptyCells ({ frames := 1, cells := 0, slots := 0, locals := 21 } : Room) (ff_Pc D [(cI, .int)] [.ref zh] ([(zh, .inr (0, [.ref za, .int cc, .int ac, .int fc, .int lc])), (za, .inl (cI, 10, .inl f))] : va_W) sz) (va_Qi (fun (r : Int32) (u : Unit) => r = f 0) (fun (u : Unit) t => ff_B D [(cI, .int)] (va_A ([(zh, .inr (0, [.ref za, .int cc, .int ac, .int fc, .int lc])), (za, .inl (cI, 10, .inl f))] : va_W) sz) [(zh, .inr (0, [.ref za, .int cc, .int ac, .int fc, .int lc])), (za, .inl (cI, 10, .inl f))] t) (va_A ([(zh, .inr (0, [.ref za, .int cc, .int ac, .int fc, .int lc])), (za, .inl (cI, 10, .inl f))] : va_W) sz)) 0 0 (va_A ([(zh, .inr (0, [.ref za, .int cc, .int ac, .int fc, .int lc])), (za, .inl (cI, 10, .inl f))] : va_W) sz) :=
  a_X0_emptyCells l D cI zh za sz cc ac fc lc f _  (pe_X0_emptyCells cc ac fc lc f)
theorem kX0_numberIn_1 : (.fieldLink RX0 9 "FieldFiller$Board" "byNumber" "[I" : Cond) ∈ wsX0_numberIn := List.mem_of_getElem? (i := 1) rfl
theorem nX0_numberIn_wsX00 : ∀ w ∈ wsX00, w ∈ wsX0_numberIn := (fun w h => List.mem_cons_of_mem _ (List.mem_append_right _ h))
set_option maxHeartbeats 4000000 in
set_option maxRecDepth 100000 in
theorem a_X0_numberIn (l : Launch) (D : va_G) (cI : ClassId) (zh za : Nat) (sz : Nat) (cc : Int32) (ac : Int32) (fc : Int32) (lc : Int32) (f : Nat → Int32) (p1 : Int32) (P : Int32 → Unit → Prop) (I2 : Int32 → Prop) (mu2 : Int32 → Nat) (hv2 : ∀ (x2 : Int32), I2 x2 → vs_X0_numberIn_2 cc ac fc lc f p1 P (fun (x29 : Int32) => I2 x29 ∧ mu2 x29 < mu2 x2) x2) (he : ve_X0_numberIn cc ac fc lc f p1 P I2) : Met l yX0_numberIn wsX0_numberIn ({ frames := 2, cells := 0, slots := 0, locals := 41 } : Room) (ff_Pc D [(cI, .int)] [.ref zh, .int p1] ([(zh, .inr (0, [.ref za, .int cc, .int ac, .int fc, .int lc])), (za, .inl (cI, 10, .inl f))] : va_W) sz) (va_Qi P (fun (u : Unit) t => ff_B D [(cI, .int)] (va_A ([(zh, .inr (0, [.ref za, .int cc, .int ac, .int fc, .int lc])), (za, .inl (cI, 10, .inl f))] : va_W) sz) [(zh, .inr (0, [.ref za, .int cc, .int ac, .int fc, .int lc])), (za, .inl (cI, 10, .inl f))] t) (va_A ([(zh, .inr (0, [.ref za, .int cc, .int ac, .int fc, .int lc])), (za, .inl (cI, 10, .inl f))] : va_W) sz)) 0 0 (va_A ([(zh, .inr (0, [.ref za, .int cc, .int ac, .int fc, .int lc])), (za, .inl (cI, 10, .inl f))] : va_W) sz) := by
  refine ff_metI (Wf := (fun (u : Unit) => ([(zh, .inr (0, [.ref za, .int cc, .int ac, .int fc, .int lc])), (za, .inl (cI, 10, .inl f))] : va_W))) (by decide +kernel) rfl (Nat.le_of_ble_eq_true rfl) ?_
  intro p e s m args below meth c A Q ls H hx hb hml hown hts hN hA hK hP hD hS hret hl
  have L2 : ∀ (N : Nat) (x2 : Int32) (H : Heap) (locs : List Loc) (ls : Array Slot), I2 x2 → mu2 x2 < N → va_P D vwCl [(zh, .inr (0, [.ref za, .int cc, .int ac, .int fc, .int lc])), (za, .inl (cI, 10, .inl f))] H → va_D A [(zh, .inr (0, [.ref za, .int cc, .int ac, .int fc, .int lc])), (za, .inl (cI, 10, .inl f))] → va_S A s.heap H locs → lv_has ls 3 [(0, .ref zh), (1, .int p1), (2, .int x2)] → W p l e ({ frames := 2, cells := 0, slots := 0, locals := 41 } : Room) s m args below meth c H locs 0 0 Q (F0 m 2 ls []) := by
    intro N
    induction N with
    | zero => intros; rename_i hz _ _ _ _; exact absurd hz (Nat.not_lt_zero _)
    | succ N ih =>
      intro x2 H locs ls hI hmu hP hD hS hl
      have h := hv2 x2 hI
      unfold vs_X0_numberIn_2 at h
      refine lv_iload_n hx hb dX0_numberIn_2 rfl (lv_at hl 2 rfl) ?_
      refine lv_aload_n hx hb dX0_numberIn_3 rfl (lv_at hl 0 rfl) ?_
      refine va_get (D := D) (ci := 0) (v := .ref za) (C := RX0) (T := TX0) (N := 5) hx hb hts nX0_numberIn_wsX00 hown hK hP 0 rfl rfl 0 (by decide) (hts _ kX0_numberIn_1) (fun _ h9 => h9) rfl dX0_numberIn_4 ?_
      refine va_alen hx hb hK hP 1 0 rfl rfl (v := 10) rfl dX0_numberIn_7 ?_
      refine lv_icmp_ge (tgt := 32) hx hb dX0_numberIn_8 (by decide) (fun c_1 => ?_) (fun c_1 => ?_)
      · have h := h.1 c_1
        refine lv_iconst (v := 0) hx hb dX0_numberIn_32 (by decide) ?_
        exact hret 0 () _ _ _ _ _ _ h (hP.sub [0, 1] rfl) (hD.sub [0, 1] (by decide) rfl) hS (Nat.le_of_ble_eq_true rfl) (Nat.le_of_ble_eq_true rfl) dX0_numberIn_33
      · have h := h.2 c_1
        refine lv_aload_n hx hb dX0_numberIn_11 rfl (lv_at hl 0 rfl) ?_
        refine va_get (D := D) (ci := 0) (v := .ref za) (C := RX0) (T := TX0) (N := 5) hx hb hts nX0_numberIn_wsX00 hown hK hP 0 rfl rfl 0 (by decide) (hts _ kX0_numberIn_1) (fun _ h9 => h9) rfl dX0_numberIn_12 ?_
        refine lv_iload_n hx hb dX0_numberIn_15 rfl (lv_at hl 2 rfl) ?_
        obtain ⟨i_2, h⟩ := h
        refine va_iald hx hb hK hP 1 0 rfl rfl i_2 dX0_numberIn_16 ?_
        refine lv_iload_n hx hb dX0_numberIn_17 rfl (lv_at hl 1 rfl) ?_
        have hPc := hP.sub (ws' := []) [] rfl
        have hDc := hD.sub (ws' := []) [] (by decide) rfl
        refine ff_callI (va_runS (As := [.int (f x2.toNatClampNeg), .int p1]) (rest := []) ⟨hx, hb, hml, hown, hts⟩ (c_X0_has l D cI H.size (f x2.toNatClampNeg) p1) (va_cwS 2 hts gX0_numberIn_X0_has rfl rfl rfl (by decide +kernel) ⟨Nat.le_of_ble_eq_true rfl, Nat.le_of_ble_eq_true rfl⟩) (ff_preS hPc hK hDc hN) rfl rfl hl.1 rfl (lv_room (Nat.le_of_ble_eq_true rfl)) dX0_numberIn_18 ⟨Nat.le_of_ble_eq_true rfl, Nat.le_of_ble_eq_true rfl⟩) hP hD hS hA [] [0, 1] (wr := [(zh, .inr (0, [.ref za, .int cc, .int ac, .int fc, .int lc])), (za, .inl (cI, 10, .inl f))]) rfl rfl (by decide) (by decide) (fun r u H locs hw hP hD hS => ?_)
        replace hw := hw.symm
        subst hw
        have hP : va_P D vwCl [(zh, .inr (0, [.ref za, .int cc, .int ac, .int fc, .int lc])), (za, .inl (cI, 10, .inl f))] H := hP
        have hD : va_D A [(zh, .inr (0, [.ref za, .int cc, .int ac, .int fc, .int lc])), (za, .inl (cI, 10, .inl f))] := hD
        refine lv_if_eq (tgt := 26) hx hb dX0_numberIn_21 (by decide) (fun c_3 => ?_) (fun c_3 => ?_)
        · have h := h.1 c_3
          obtain ⟨y_4, ey_4⟩ : ∃ y : Int32, y = x2 + 1 := ⟨_, rfl⟩
          have h := h y_4 ey_4
          refine lv_iinc (v := y_4) (lv' := [(2, .int y_4), (0, .ref zh), (1, .int p1)]) hx hb dX0_numberIn_26 hl (k := 2) rfl (by rw [ey_4]; rfl) (by decide) rfl (fun ls hl => ?_)
          refine lv_goto (tgt := 2) hx hb dX0_numberIn_29 (by decide) ?_
          exact ih _ _ _ _ h.1 (Nat.lt_of_lt_of_le h.2 (Nat.le_of_lt_succ hmu)) (hP.sub [0, 1] rfl) (hD.sub [0, 1] (by decide) rfl) hS (lv_sub hl [1, 2, 0] rfl)
        · have h := h.2 c_3
          refine lv_iload_n hx hb dX0_numberIn_24 rfl (lv_at hl 2 rfl) ?_
          exact hret x2 () _ _ _ _ _ _ h (hP.sub [0, 1] rfl) (hD.sub [0, 1] (by decide) rfl) hS (Nat.le_of_ble_eq_true rfl) (Nat.le_of_ble_eq_true rfl) dX0_numberIn_25
  have h := he
  unfold ve_X0_numberIn at h
  have hl : lv_has ls 3 [(0, .ref zh), (1, .int p1)] := hl
  refine lv_iconst (v := 1) hx hb dX0_numberIn_0 (by decide) ?_
  refine lv_istore_n (lv' := [(2, .int 1), (0, .ref zh), (1, .int p1)]) hx hb dX0_numberIn_1 rfl hl (by decide) rfl (fun ls hl => ?_)
  exact L2 _ _ _ _ _ h (Nat.lt_succ_self _) (hP.sub [0, 1] rfl) (hD.sub [0, 1] (by decide) rfl) hS (lv_sub hl [1, 2, 0] rfl)
theorem c_X0_numberIn (l : Launch) (D : va_G) (cI : ClassId) (zh za : Nat) (sz : Nat) (cc : Int32) (ac : Int32) (fc : Int32) (lc : Int32) (f : Nat → Int32) (p1 : Int32) : Met l yX0_numberIn wsX0_numberIn ({ frames := 2, cells := 0, slots := 0, locals := 41 } : Room) (ff_Pc D [(cI, .int)] [.ref zh, .int p1] ([(zh, .inr (0, [.ref za, .int cc, .int ac, .int fc, .int lc])), (za, .inl (cI, 10, .inl f))] : va_W) sz) (va_Qi (fun (r : Int32) (u : Unit) => r = zni f p1 9) (fun (u : Unit) t => ff_B D [(cI, .int)] (va_A ([(zh, .inr (0, [.ref za, .int cc, .int ac, .int fc, .int lc])), (za, .inl (cI, 10, .inl f))] : va_W) sz) [(zh, .inr (0, [.ref za, .int cc, .int ac, .int fc, .int lc])), (za, .inl (cI, 10, .inl f))] t) (va_A ([(zh, .inr (0, [.ref za, .int cc, .int ac, .int fc, .int lc])), (za, .inl (cI, 10, .inl f))] : va_W) sz)) 0 0 (va_A ([(zh, .inr (0, [.ref za, .int cc, .int ac, .int fc, .int lc])), (za, .inl (cI, 10, .inl f))] : va_W) sz) :=
  a_X0_numberIn l D cI zh za sz cc ac fc lc f p1 _ (I_X0_numberIn_2 cc ac fc lc f p1) (mu_X0_numberIn_2 cc ac fc lc f p1) (pl_X0_numberIn_2 cc ac fc lc f p1) (pe_X0_numberIn cc ac fc lc f p1)
theorem kX0_write_1 : (.fieldLink RX0 9 "FieldFiller$Board" "byNumber" "[I" : Cond) ∈ wsX0_write := List.mem_of_getElem? (i := 1) rfl
theorem nX0_write_wsX00 : ∀ w ∈ wsX00, w ∈ wsX0_write := (fun w h => List.mem_cons_of_mem _ (List.mem_append_right _ h))
set_option maxHeartbeats 4000000 in
set_option maxRecDepth 100000 in
theorem a_X0_write (l : Launch) (D : va_G) (cI : ClassId) (zh za : Nat) (sz : Nat) (cc : Int32) (ac : Int32) (fc : Int32) (lc : Int32) (f : Nat → Int32) (p1 : Int32) (p2 : Int32) (P : ((Nat → Int32)) → Prop) (I2 : Int32 → (Nat → Int32) → Prop) (mu2 : Int32 → (Nat → Int32) → Nat) (hv2 : ∀ (x3 : Int32) (f' : Nat → Int32), I2 x3 f' → vs_X0_write_2 cc ac fc lc f p1 p2 P (fun (x39 : Int32) (f9 : Nat → Int32) => I2 x39 f9 ∧ mu2 x39 f9 < mu2 x3 f') x3 f') (he : ve_X0_write cc ac fc lc f p1 p2 P I2) : Met l yX0_write wsX0_write ({ frames := 1, cells := 0, slots := 0, locals := 20 } : Room) (ff_Pc D [(cI, .int)] [.ref zh, .int p1, .int p2] ([(zh, .inr (0, [.ref za, .int cc, .int ac, .int fc, .int lc])), (za, .inl (cI, 10, .inl f))] : va_W) sz) (va_Qv P (fun (u : (Nat → Int32)) t => ff_B D [(cI, .int)] (va_A ([(zh, .inr (0, [.ref za, .int cc, .int ac, .int fc, .int lc])), (za, .inl (cI, 10, .inl f))] : va_W) sz) [(zh, .inr (0, [.ref za, .int cc, .int ac, .int fc, .int lc])), (za, .inl (cI, 10, .inl u))] t) (va_A ([(zh, .inr (0, [.ref za, .int cc, .int ac, .int fc, .int lc])), (za, .inl (cI, 10, .inl f))] : va_W) sz)) 0 0 (va_A ([(zh, .inr (0, [.ref za, .int cc, .int ac, .int fc, .int lc])), (za, .inl (cI, 10, .inl f))] : va_W) sz) := by
  refine ff_metV (Wf := (fun (u : (Nat → Int32)) => ([(zh, .inr (0, [.ref za, .int cc, .int ac, .int fc, .int lc])), (za, .inl (cI, 10, .inl u))] : va_W))) (by decide +kernel) rfl (Nat.le_of_ble_eq_true rfl) ?_
  intro p e s m args below meth c A Q ls H hx hb hml hown hin hts hN hA hK hP hD hS hret hl
  have L2 : ∀ (N : Nat) (x3 : Int32) (f' : Nat → Int32) (H : Heap) (locs : List Loc) (ls : Array Slot), I2 x3 f' → mu2 x3 f' < N → va_P D vwCl [(zh, .inr (0, [.ref za, .int cc, .int ac, .int fc, .int lc])), (za, .inl (cI, 10, .inl f'))] H → va_D A [(zh, .inr (0, [.ref za, .int cc, .int ac, .int fc, .int lc])), (za, .inl (cI, 10, .inl f'))] → va_S A s.heap H locs → lv_has ls 4 [(0, .ref zh), (1, .int p1), (2, .int p2), (3, .int x3)] → W p l e ({ frames := 1, cells := 0, slots := 0, locals := 20 } : Room) s m args below meth c H locs 0 0 Q (F0 m 2 ls []) := by
    intro N
    induction N with
    | zero => intros; rename_i hz _ _ _ _; exact absurd hz (Nat.not_lt_zero _)
    | succ N ih =>
      intro x3 f' H locs ls hI hmu hP hD hS hl
      have h := hv2 x3 f' hI
      unfold vs_X0_write_2 at h
      refine lv_iload_n hx hb dX0_write_2 rfl (lv_at hl 3 rfl) ?_
      refine lv_aload_n hx hb dX0_write_3 rfl (lv_at hl 0 rfl) ?_
      refine va_get (D := D) (ci := 0) (v := .ref za) (C := RX0) (T := TX0) (N := 5) hx hb hts nX0_write_wsX00 hown hK hP 0 rfl rfl 0 (by decide) (hts _ kX0_write_1) (fun _ h9 => h9) rfl dX0_write_4 ?_
      refine va_alen hx hb hK hP 1 0 rfl rfl (v := 10) rfl dX0_write_7 ?_
      refine lv_icmp_ge (tgt := 53) hx hb dX0_write_8 (by decide) (fun c_1 => ?_) (fun c_1 => ?_)
      · have h := h.1 c_1
        exact hret (f') _ _ _ _ _ _ h (hP.sub [0, 1] rfl) (hD.sub [0, 1] (by decide) rfl) hS (Nat.le_of_ble_eq_true rfl) (Nat.le_of_ble_eq_true rfl) dX0_write_53
      · have h := h.2 c_1
        refine lv_iload_n hx hb dX0_write_11 rfl (lv_at hl 3 rfl) ?_
        refine lv_iload_n hx hb dX0_write_12 rfl (lv_at hl 2 rfl) ?_
        refine lv_icmp_ne (tgt := 32) hx hb dX0_write_13 (by decide) (fun c_2 => ?_) (fun c_2 => ?_)
        · have h := h.2 c_2
          refine lv_aload_n hx hb dX0_write_32 rfl (lv_at hl 0 rfl) ?_
          refine va_get (D := D) (ci := 0) (v := .ref za) (C := RX0) (T := TX0) (N := 5) hx hb hts nX0_write_wsX00 hown hK hP 0 rfl rfl 0 (by decide) (hts _ kX0_write_1) (fun _ h9 => h9) rfl dX0_write_33 ?_
          refine lv_iload_n hx hb dX0_write_36 rfl (lv_at hl 3 rfl) ?_
          refine lv_dup2_11 hx hb dX0_write_37 rfl rfl ?_
          obtain ⟨i_3, h⟩ := h
          refine va_iald hx hb hK hP 1 0 rfl rfl i_3 dX0_write_38 ?_
          refine lv_iload_n hx hb dX0_write_39 rfl (lv_at hl 1 rfl) ?_
          have hPc := hP.sub (ws' := []) [] rfl
          have hDc := hD.sub (ws' := []) [] (by decide) rfl
          refine ff_callI (va_runS (As := [.int p1]) (rest := [.int (f' x3.toNatClampNeg), .int x3, .ref za]) ⟨hx, hb, hml, hown, hts⟩ (c_X0_bit l D cI H.size p1) (va_cwS 1 hts gX0_write_X0_bit rfl rfl rfl (by decide +kernel) ⟨Nat.le_of_ble_eq_true rfl, Nat.le_of_ble_eq_true rfl⟩) (ff_preS hPc hK hDc hN) rfl rfl hl.1 rfl (lv_room (Nat.le_of_ble_eq_true rfl)) dX0_write_40 ⟨Nat.le_of_ble_eq_true rfl, Nat.le_of_ble_eq_true rfl⟩) hP hD hS hA [] [0, 1] (wr := [(zh, .inr (0, [.ref za, .int cc, .int ac, .int fc, .int lc])), (za, .inl (cI, 10, .inl f'))]) rfl rfl (by decide) (by decide) (fun r u H locs hw hP hD hS => ?_)
          replace hw := hw.symm
          subst hw
          have hP : va_P D vwCl [(zh, .inr (0, [.ref za, .int cc, .int ac, .int fc, .int lc])), (za, .inl (cI, 10, .inl f'))] H := hP
          have hD : va_D A [(zh, .inr (0, [.ref za, .int cc, .int ac, .int fc, .int lc])), (za, .inl (cI, 10, .inl f'))] := hD
          refine lv_iconst (v := (-1)) hx hb dX0_write_43 (by decide) ?_
          refine lv_ixor hx hb dX0_write_44 ?_
          refine lv_iand hx hb dX0_write_45 ?_
          obtain ⟨i_4, h⟩ := h
          refine va_iast hx hb hK hP hD hS 1 0 rfl rfl i_4 dX0_write_46 (fun H locs hP hD hS => ?_)
          have hP : va_P D vwCl [(zh, .inr (0, [.ref za, .int cc, .int ac, .int fc, .int lc])), (za, .inl (cI, 10, .inl (upd f' x3.toNatClampNeg ((f' x3.toNatClampNeg) &&& ((zbit p1) ^^^ (-1))))))] H := hP
          have hD : va_D A [(zh, .inr (0, [.ref za, .int cc, .int ac, .int fc, .int lc])), (za, .inl (cI, 10, .inl (upd f' x3.toNatClampNeg ((f' x3.toNatClampNeg) &&& ((zbit p1) ^^^ (-1))))))] := hD
          obtain ⟨y_5, ey_5⟩ : ∃ y : Int32, y = x3 + 1 := ⟨_, rfl⟩
          have h := h y_5 ey_5
          refine lv_iinc (v := y_5) (lv' := [(3, .int y_5), (0, .ref zh), (1, .int p1), (2, .int p2)]) hx hb dX0_write_47 hl (k := 3) rfl (by rw [ey_5]; rfl) (by decide) rfl (fun ls hl => ?_)
          refine lv_goto (tgt := 2) hx hb dX0_write_50 (by decide) ?_
          exact ih _ _ _ _ _ h.1 (Nat.lt_of_lt_of_le h.2 (Nat.le_of_lt_succ hmu)) (hP.sub [0, 1] rfl) (hD.sub [0, 1] (by decide) rfl) hS (lv_sub hl [1, 2, 3, 0] rfl)
        · have h := h.1 c_2
          refine lv_aload_n hx hb dX0_write_16 rfl (lv_at hl 0 rfl) ?_
          refine va_get (D := D) (ci := 0) (v := .ref za) (C := RX0) (T := TX0) (N := 5) hx hb hts nX0_write_wsX00 hown hK hP 0 rfl rfl 0 (by decide) (hts _ kX0_write_1) (fun _ h9 => h9) rfl dX0_write_17 ?_
          refine lv_iload_n hx hb dX0_write_20 rfl (lv_at hl 3 rfl) ?_
          refine lv_dup2_11 hx hb dX0_write_21 rfl rfl ?_
          obtain ⟨i_6, h⟩ := h
          refine va_iald hx hb hK hP 1 0 rfl rfl i_6 dX0_write_22 ?_
          refine lv_iload_n hx hb dX0_write_23 rfl (lv_at hl 1 rfl) ?_
          have hPc := hP.sub (ws' := []) [] rfl
          have hDc := hD.sub (ws' := []) [] (by decide) rfl
          refine ff_callI (va_runS (As := [.int p1]) (rest := [.int (f' x3.toNatClampNeg), .int x3, .ref za]) ⟨hx, hb, hml, hown, hts⟩ (c_X0_bit l D cI H.size p1) (va_cwS 1 hts gX0_write_X0_bit rfl rfl rfl (by decide +kernel) ⟨Nat.le_of_ble_eq_true rfl, Nat.le_of_ble_eq_true rfl⟩) (ff_preS hPc hK hDc hN) rfl rfl hl.1 rfl (lv_room (Nat.le_of_ble_eq_true rfl)) dX0_write_24 ⟨Nat.le_of_ble_eq_true rfl, Nat.le_of_ble_eq_true rfl⟩) hP hD hS hA [] [0, 1] (wr := [(zh, .inr (0, [.ref za, .int cc, .int ac, .int fc, .int lc])), (za, .inl (cI, 10, .inl f'))]) rfl rfl (by decide) (by decide) (fun r u H locs hw hP hD hS => ?_)
          replace hw := hw.symm
          subst hw
          have hP : va_P D vwCl [(zh, .inr (0, [.ref za, .int cc, .int ac, .int fc, .int lc])), (za, .inl (cI, 10, .inl f'))] H := hP
          have hD : va_D A [(zh, .inr (0, [.ref za, .int cc, .int ac, .int fc, .int lc])), (za, .inl (cI, 10, .inl f'))] := hD
          refine lv_ior hx hb dX0_write_27 ?_
          obtain ⟨i_7, h⟩ := h
          refine va_iast hx hb hK hP hD hS 1 0 rfl rfl i_7 dX0_write_28 (fun H locs hP hD hS => ?_)
          have hP : va_P D vwCl [(zh, .inr (0, [.ref za, .int cc, .int ac, .int fc, .int lc])), (za, .inl (cI, 10, .inl (upd f' x3.toNatClampNeg ((f' x3.toNatClampNeg) ||| (zbit p1)))))] H := hP
          have hD : va_D A [(zh, .inr (0, [.ref za, .int cc, .int ac, .int fc, .int lc])), (za, .inl (cI, 10, .inl (upd f' x3.toNatClampNeg ((f' x3.toNatClampNeg) ||| (zbit p1)))))] := hD
          refine lv_goto (tgt := 47) hx hb dX0_write_29 (by decide) ?_
          obtain ⟨y_8, ey_8⟩ : ∃ y : Int32, y = x3 + 1 := ⟨_, rfl⟩
          have h := h y_8 ey_8
          refine lv_iinc (v := y_8) (lv' := [(3, .int y_8), (0, .ref zh), (1, .int p1), (2, .int p2)]) hx hb dX0_write_47 hl (k := 3) rfl (by rw [ey_8]; rfl) (by decide) rfl (fun ls hl => ?_)
          refine lv_goto (tgt := 2) hx hb dX0_write_50 (by decide) ?_
          exact ih _ _ _ _ _ h.1 (Nat.lt_of_lt_of_le h.2 (Nat.le_of_lt_succ hmu)) (hP.sub [0, 1] rfl) (hD.sub [0, 1] (by decide) rfl) hS (lv_sub hl [1, 2, 3, 0] rfl)
  have h := he
  unfold ve_X0_write at h
  have hl : lv_has ls 4 [(0, .ref zh), (1, .int p1), (2, .int p2)] := hl
  refine lv_iconst (v := 0) hx hb dX0_write_0 (by decide) ?_
  refine lv_istore_n (lv' := [(3, .int 0), (0, .ref zh), (1, .int p1), (2, .int p2)]) hx hb dX0_write_1 rfl hl (by decide) rfl (fun ls hl => ?_)
  exact L2 _ _ _ _ _ _ h (Nat.lt_succ_self _) (hP.sub [0, 1] rfl) (hD.sub [0, 1] (by decide) rfl) hS (lv_sub hl [1, 2, 3, 0] rfl)
theorem c_X0_write (l : Launch) (D : va_G) (cI : ClassId) (zh za : Nat) (sz : Nat) (cc : Int32) (ac : Int32) (fc : Int32) (lc : Int32) (f : Nat → Int32) (p1 : Int32) (p2 : Int32) : Met l yX0_write wsX0_write ({ frames := 1, cells := 0, slots := 0, locals := 20 } : Room) (ff_Pc D [(cI, .int)] [.ref zh, .int p1, .int p2] ([(zh, .inr (0, [.ref za, .int cc, .int ac, .int fc, .int lc])), (za, .inl (cI, 10, .inl f))] : va_W) sz) (va_Qv (fun (u : (Nat → Int32)) => u = (zwr f p1 p2)) (fun (u : (Nat → Int32)) t => ff_B D [(cI, .int)] (va_A ([(zh, .inr (0, [.ref za, .int cc, .int ac, .int fc, .int lc])), (za, .inl (cI, 10, .inl f))] : va_W) sz) [(zh, .inr (0, [.ref za, .int cc, .int ac, .int fc, .int lc])), (za, .inl (cI, 10, .inl u))] t) (va_A ([(zh, .inr (0, [.ref za, .int cc, .int ac, .int fc, .int lc])), (za, .inl (cI, 10, .inl f))] : va_W) sz)) 0 0 (va_A ([(zh, .inr (0, [.ref za, .int cc, .int ac, .int fc, .int lc])), (za, .inl (cI, 10, .inl f))] : va_W) sz) :=
  a_X0_write l D cI zh za sz cc ac fc lc f p1 p2 _ (I_X0_write_2 cc ac fc lc f p1 p2) (mu_X0_write_2 cc ac fc lc f p1 p2) (pl_X0_write_2 cc ac fc lc f p1 p2) (pe_X0_write cc ac fc lc f p1 p2)
theorem kX0_beside_1 : (.fieldLink RX0 30 "FieldFiller$Board" "firstColumn" "I" : Cond) ∈ wsX0_beside := List.mem_of_getElem? (i := 1) rfl
theorem nX0_beside_wsX00 : ∀ w ∈ wsX00, w ∈ wsX0_beside := (fun w h => List.mem_cons_of_mem _ (List.mem_append_right _ h))
theorem kX0_beside_2 : (.fieldLink RX0 33 "FieldFiller$Board" "lastColumn" "I" : Cond) ∈ wsX0_beside := List.mem_of_getElem? (i := 2) rfl
theorem kX0_beside_3 : (.fieldLink RX0 19 "FieldFiller$Board" "columnCount" "I" : Cond) ∈ wsX0_beside := List.mem_of_getElem? (i := 3) rfl
theorem kX0_beside_4 : (.fieldLink RX0 27 "FieldFiller$Board" "allCells" "I" : Cond) ∈ wsX0_beside := List.mem_of_getElem? (i := 4) rfl
set_option maxHeartbeats 4000000 in
set_option maxRecDepth 100000 in
theorem a_X0_beside (l : Launch) (D : va_G) (cI : ClassId) (zh za : Nat) (sz : Nat) (cc : Int32) (ac : Int32) (fc : Int32) (lc : Int32) (f : Nat → Int32) (p1 : Int32) (P : Int32 → Unit → Prop)  (he : ve_X0_beside cc ac fc lc f p1 P ) : Met l yX0_beside wsX0_beside ({ frames := 0, cells := 0, slots := 0, locals := 0 } : Room) (ff_Pc D [(cI, .int)] [.ref zh, .int p1] ([(zh, .inr (0, [.ref za, .int cc, .int ac, .int fc, .int lc])), (za, .inl (cI, 10, .inl f))] : va_W) sz) (va_Qi P (fun (u : Unit) t => ff_B D [(cI, .int)] (va_A ([(zh, .inr (0, [.ref za, .int cc, .int ac, .int fc, .int lc])), (za, .inl (cI, 10, .inl f))] : va_W) sz) [(zh, .inr (0, [.ref za, .int cc, .int ac, .int fc, .int lc])), (za, .inl (cI, 10, .inl f))] t) (va_A ([(zh, .inr (0, [.ref za, .int cc, .int ac, .int fc, .int lc])), (za, .inl (cI, 10, .inl f))] : va_W) sz)) 0 0 (va_A ([(zh, .inr (0, [.ref za, .int cc, .int ac, .int fc, .int lc])), (za, .inl (cI, 10, .inl f))] : va_W) sz) := by
  refine ff_metI (Wf := (fun (u : Unit) => ([(zh, .inr (0, [.ref za, .int cc, .int ac, .int fc, .int lc])), (za, .inl (cI, 10, .inl f))] : va_W))) (by decide +kernel) rfl (Nat.le_of_ble_eq_true rfl) ?_
  intro p e s m args below meth c A Q ls H hx hb hml hown hts hN hA hK hP hD hS hret hl
  have h := he
  unfold ve_X0_beside at h
  have hl : lv_has ls 6 [(0, .ref zh), (1, .int p1)] := hl
  refine lv_iload_n hx hb dX0_beside_0 rfl (lv_at hl 1 rfl) ?_
  refine lv_aload_n hx hb dX0_beside_1 rfl (lv_at hl 0 rfl) ?_
  refine va_get (D := D) (ci := 0) (v := .int fc) (C := RX0) (T := TX0) (N := 5) hx hb hts nX0_beside_wsX00 hown hK hP 0 rfl rfl 3 (by decide) (hts _ kX0_beside_1) (fun _ h9 => h9) rfl dX0_beside_2 ?_
  refine lv_iconst (v := (-1)) hx hb dX0_beside_5 (by decide) ?_
  refine lv_ixor hx hb dX0_beside_6 ?_
  refine lv_iand hx hb dX0_beside_7 ?_
  refine lv_iconst (v := 1) hx hb dX0_beside_8 (by decide) ?_
  refine lv_iushr hx hb dX0_beside_9 rfl ?_
  refine lv_topi (fun y_1 ey_1 => ?_)
  have h := h y_1 ey_1
  refine lv_istore_n (lv' := [(2, .int y_1), (0, .ref zh), (1, .int p1)]) hx hb dX0_beside_10 rfl hl (by decide) rfl (fun ls hl => ?_)
  refine lv_iload_n hx hb dX0_beside_11 rfl (lv_at hl 2 rfl) ?_
  refine lv_aload_n hx hb dX0_beside_12 rfl (lv_at hl 1 rfl) ?_
  refine va_get (D := D) (ci := 0) (v := .int lc) (C := RX0) (T := TX0) (N := 5) hx hb hts nX0_beside_wsX00 hown hK hP 0 rfl rfl 4 (by decide) (hts _ kX0_beside_2) (fun _ h9 => h9) rfl dX0_beside_13 ?_
  refine lv_iconst (v := (-1)) hx hb dX0_beside_16 (by decide) ?_
  refine lv_ixor hx hb dX0_beside_17 ?_
  refine lv_iand hx hb dX0_beside_18 ?_
  refine lv_iconst (v := 1) hx hb dX0_beside_19 (by decide) ?_
  refine lv_ishl hx hb dX0_beside_20 ?_
  refine lv_topi (fun y_2 ey_2 => ?_)
  have h := h y_2 ey_2
  refine lv_istore_n (lv' := [(3, .int y_2), (2, .int y_1), (0, .ref zh), (1, .int p1)]) hx hb dX0_beside_21 rfl hl (by decide) rfl (fun ls hl => ?_)
  refine lv_iload_n hx hb dX0_beside_22 rfl (lv_at hl 3 rfl) ?_
  refine lv_aload_n hx hb dX0_beside_23 rfl (lv_at hl 2 rfl) ?_
  refine va_get (D := D) (ci := 0) (v := .int cc) (C := RX0) (T := TX0) (N := 5) hx hb hts nX0_beside_wsX00 hown hK hP 0 rfl rfl 1 (by decide) (hts _ kX0_beside_3) (fun _ h9 => h9) rfl dX0_beside_24 ?_
  refine lv_iushr hx hb dX0_beside_27 rfl ?_
  refine lv_topi (fun y_3 ey_3 => ?_)
  have h := h y_3 ey_3
  refine lv_istore (lv' := [(4, .int y_3), (3, .int y_2), (2, .int y_1), (0, .ref zh), (1, .int p1)]) hx hb dX0_beside_28 hl (by decide) rfl (fun ls hl => ?_)
  refine lv_iload_n hx hb dX0_beside_30 rfl (lv_at hl 4 rfl) ?_
  refine lv_aload_n hx hb dX0_beside_31 rfl (lv_at hl 3 rfl) ?_
  refine va_get (D := D) (ci := 0) (v := .int cc) (C := RX0) (T := TX0) (N := 5) hx hb hts nX0_beside_wsX00 hown hK hP 0 rfl rfl 1 (by decide) (hts _ kX0_beside_3) (fun _ h9 => h9) rfl dX0_beside_32 ?_
  refine lv_ishl hx hb dX0_beside_35 ?_
  refine lv_topi (fun y_4 ey_4 => ?_)
  have h := h y_4 ey_4
  refine lv_istore (lv' := [(5, .int y_4), (4, .int y_3), (3, .int y_2), (2, .int y_1), (0, .ref zh), (1, .int p1)]) hx hb dX0_beside_36 hl (by decide) rfl (fun ls hl => ?_)
  refine lv_iload_n hx hb dX0_beside_38 rfl (lv_at hl 3 rfl) ?_
  refine lv_iload_n hx hb dX0_beside_39 rfl (lv_at hl 2 rfl) ?_
  refine lv_ior hx hb dX0_beside_40 ?_
  refine lv_iload hx hb dX0_beside_41 (lv_at hl 1 rfl) ?_
  refine lv_ior hx hb dX0_beside_43 ?_
  refine lv_iload hx hb dX0_beside_44 (lv_at hl 0 rfl) ?_
  refine lv_ior hx hb dX0_beside_46 ?_
  refine lv_aload_n hx hb dX0_beside_47 rfl (lv_at hl 4 rfl) ?_
  refine va_get (D := D) (ci := 0) (v := .int ac) (C := RX0) (T := TX0) (N := 5) hx hb hts nX0_beside_wsX00 hown hK hP 0 rfl rfl 2 (by decide) (hts _ kX0_beside_4) (fun _ h9 => h9) rfl dX0_beside_48 ?_
  refine lv_iand hx hb dX0_beside_51 ?_
  exact hret ((((y_1 ||| y_2) ||| y_3) ||| y_4) &&& ac) () _ _ _ _ _ _ h (hP.sub [0, 1] rfl) (hD.sub [0, 1] (by decide) rfl) hS (Nat.le_of_ble_eq_true rfl) (Nat.le_of_ble_eq_true rfl) dX0_beside_52
theorem c_X0_beside (l : Launch) (D : va_G) (cI : ClassId) (zh za : Nat) (sz : Nat) (cc : Int32) (ac : Int32) (fc : Int32) (lc : Int32) (f : Nat → Int32) (p1 : Int32) : Met l yX0_beside wsX0_beside ({ frames := 0, cells := 0, slots := 0, locals := 0 } : Room) (ff_Pc D [(cI, .int)] [.ref zh, .int p1] ([(zh, .inr (0, [.ref za, .int cc, .int ac, .int fc, .int lc])), (za, .inl (cI, 10, .inl f))] : va_W) sz) (va_Qi (fun (r : Int32) (u : Unit) => r = zbs cc ac fc lc p1) (fun (u : Unit) t => ff_B D [(cI, .int)] (va_A ([(zh, .inr (0, [.ref za, .int cc, .int ac, .int fc, .int lc])), (za, .inl (cI, 10, .inl f))] : va_W) sz) [(zh, .inr (0, [.ref za, .int cc, .int ac, .int fc, .int lc])), (za, .inl (cI, 10, .inl f))] t) (va_A ([(zh, .inr (0, [.ref za, .int cc, .int ac, .int fc, .int lc])), (za, .inl (cI, 10, .inl f))] : va_W) sz)) 0 0 (va_A ([(zh, .inr (0, [.ref za, .int cc, .int ac, .int fc, .int lc])), (za, .inl (cI, 10, .inl f))] : va_W) sz) :=
  a_X0_beside l D cI zh za sz cc ac fc lc f p1 _  (pe_X0_beside cc ac fc lc f p1)
set_option maxHeartbeats 4000000 in
set_option maxRecDepth 100000 in
theorem a_X0_hasEmptyNeighbour (l : Launch) (D : va_G) (cI : ClassId) (zh za : Nat) (sz : Nat) (cc : Int32) (ac : Int32) (fc : Int32) (lc : Int32) (f : Nat → Int32) (p1 : Int32) (P : Int32 → Unit → Prop)  (he : ve_X0_hasEmptyNeighbour cc ac fc lc f p1 P ) : Met l yX0_hasEmptyNeighbour wsX0_hasEmptyNeighbour ({ frames := 2, cells := 0, slots := 0, locals := 41 } : Room) (ff_Pc D [(cI, .int)] [.ref zh, .int p1] ([(zh, .inr (0, [.ref za, .int cc, .int ac, .int fc, .int lc])), (za, .inl (cI, 10, .inl f))] : va_W) sz) (va_Qi P (fun (u : Unit) t => ff_B D [(cI, .int)] (va_A ([(zh, .inr (0, [.ref za, .int cc, .int ac, .int fc, .int lc])), (za, .inl (cI, 10, .inl f))] : va_W) sz) [(zh, .inr (0, [.ref za, .int cc, .int ac, .int fc, .int lc])), (za, .inl (cI, 10, .inl f))] t) (va_A ([(zh, .inr (0, [.ref za, .int cc, .int ac, .int fc, .int lc])), (za, .inl (cI, 10, .inl f))] : va_W) sz)) 0 0 (va_A ([(zh, .inr (0, [.ref za, .int cc, .int ac, .int fc, .int lc])), (za, .inl (cI, 10, .inl f))] : va_W) sz) := by
  refine ff_metZ (Wf := (fun (u : Unit) => ([(zh, .inr (0, [.ref za, .int cc, .int ac, .int fc, .int lc])), (za, .inl (cI, 10, .inl f))] : va_W))) (by decide +kernel) rfl (Nat.le_of_ble_eq_true rfl) ?_
  intro p e s m args below meth c A Q ls H hx hb hml hown hts hN hA hK hP hD hS hret hl
  have h := he
  unfold ve_X0_hasEmptyNeighbour at h
  have hl : lv_has ls 2 [(0, .ref zh), (1, .int p1)] := hl
  refine lv_aload_n hx hb dX0_hasEmptyNeighbour_0 rfl (lv_at hl 0 rfl) ?_
  refine lv_iload_n hx hb dX0_hasEmptyNeighbour_1 rfl (lv_at hl 1 rfl) ?_
  have hPc := hP.sub (ws' := []) [] rfl
  have hDc := hD.sub (ws' := []) [] (by decide) rfl
  refine ff_callI (va_runS (As := [.int p1]) (rest := [.ref zh]) ⟨hx, hb, hml, hown, hts⟩ (c_X0_bit l D cI H.size p1) (va_cwS 1 hts gX0_hasEmptyNeighbour_X0_bit rfl rfl rfl (by decide +kernel) ⟨Nat.le_of_ble_eq_true rfl, Nat.le_of_ble_eq_true rfl⟩) (ff_preS hPc hK hDc hN) rfl rfl hl.1 rfl (lv_room (Nat.le_of_ble_eq_true rfl)) dX0_hasEmptyNeighbour_2 ⟨Nat.le_of_ble_eq_true rfl, Nat.le_of_ble_eq_true rfl⟩) hP hD hS hA [] [0, 1] (wr := [(zh, .inr (0, [.ref za, .int cc, .int ac, .int fc, .int lc])), (za, .inl (cI, 10, .inl f))]) rfl rfl (by decide) (by decide) (fun r u H locs hw hP hD hS => ?_)
  replace hw := hw.symm
  subst hw
  have hP : va_P D vwCl [(zh, .inr (0, [.ref za, .int cc, .int ac, .int fc, .int lc])), (za, .inl (cI, 10, .inl f))] H := hP
  have hD : va_D A [(zh, .inr (0, [.ref za, .int cc, .int ac, .int fc, .int lc])), (za, .inl (cI, 10, .inl f))] := hD
  have hPc := hP.sub (ws' := [(zh, .inr (0, [.ref za, .int cc, .int ac, .int fc, .int lc])), (za, .inl (cI, 10, .inl f))]) [0, 1] rfl
  have hDc := hD.sub (ws' := [(zh, .inr (0, [.ref za, .int cc, .int ac, .int fc, .int lc])), (za, .inl (cI, 10, .inl f))]) [0, 1] (by decide) rfl
  refine ff_callI (va_runV (As := [.int (zbit p1)]) (rest := []) ⟨hx, hb, hml, hown, hts⟩ (c_X0_beside l D cI zh za H.size cc ac fc lc f (zbit p1)) (cwV 1 hts gX0_hasEmptyNeighbour_X0_beside rfl rfl rfl (by decide +kernel) ⟨Nat.le_of_ble_eq_true rfl, Nat.le_of_ble_eq_true rfl⟩) (ff_preV (q := (RX0, TX0, 5)) (ci := 0) (q0 := 0) hPc hK hDc hN rfl rfl) rfl rfl hl.1 rfl (lv_room (Nat.le_of_ble_eq_true rfl)) dX0_hasEmptyNeighbour_5 ⟨Nat.le_of_ble_eq_true rfl, Nat.le_of_ble_eq_true rfl⟩) hP hD hS hA [0, 1] [] (wr := []) rfl rfl (by decide) (by decide) (fun r u H locs hw hP hD hS => ?_)
  replace hw := hw.symm
  subst hw
  have hP : va_P D vwCl [(zh, .inr (0, [.ref za, .int cc, .int ac, .int fc, .int lc])), (za, .inl (cI, 10, .inl f))] H := hP
  have hD : va_D A [(zh, .inr (0, [.ref za, .int cc, .int ac, .int fc, .int lc])), (za, .inl (cI, 10, .inl f))] := hD
  refine lv_aload_n hx hb dX0_hasEmptyNeighbour_8 rfl (lv_at hl 0 rfl) ?_
  have hPc := hP.sub (ws' := [(zh, .inr (0, [.ref za, .int cc, .int ac, .int fc, .int lc])), (za, .inl (cI, 10, .inl f))]) [0, 1] rfl
  have hDc := hD.sub (ws' := [(zh, .inr (0, [.ref za, .int cc, .int ac, .int fc, .int lc])), (za, .inl (cI, 10, .inl f))]) [0, 1] (by decide) rfl
  refine ff_callI (va_runV (As := []) (rest := [.int (zbs cc ac fc lc (zbit p1))]) ⟨hx, hb, hml, hown, hts⟩ (c_X0_emptyCells l D cI zh za H.size cc ac fc lc f) (cwV 0 hts gX0_hasEmptyNeighbour_X0_emptyCells rfl rfl rfl (by decide +kernel) ⟨Nat.le_of_ble_eq_true rfl, Nat.le_of_ble_eq_true rfl⟩) (ff_preV (q := (RX0, TX0, 5)) (ci := 0) (q0 := 0) hPc hK hDc hN rfl rfl) rfl rfl hl.1 rfl (lv_room (Nat.le_of_ble_eq_true rfl)) dX0_hasEmptyNeighbour_9 ⟨Nat.le_of_ble_eq_true rfl, Nat.le_of_ble_eq_true rfl⟩) hP hD hS hA [0, 1] [] (wr := []) rfl rfl (by decide) (by decide) (fun r u H locs hw hP hD hS => ?_)
  replace hw := hw.symm
  subst hw
  have hP : va_P D vwCl [(zh, .inr (0, [.ref za, .int cc, .int ac, .int fc, .int lc])), (za, .inl (cI, 10, .inl f))] H := hP
  have hD : va_D A [(zh, .inr (0, [.ref za, .int cc, .int ac, .int fc, .int lc])), (za, .inl (cI, 10, .inl f))] := hD
  refine lv_iand hx hb dX0_hasEmptyNeighbour_12 ?_
  refine lv_if_eq (tgt := 20) hx hb dX0_hasEmptyNeighbour_13 (by decide) (fun c_1 => ?_) (fun c_1 => ?_)
  · have h := h.1 c_1
    refine lv_iconst (v := 0) hx hb dX0_hasEmptyNeighbour_20 (by decide) ?_
    exact hret 0 () _ _ _ _ _ _ (by decide) h (hP.sub [0, 1] rfl) (hD.sub [0, 1] (by decide) rfl) hS (Nat.le_of_ble_eq_true rfl) (Nat.le_of_ble_eq_true rfl) dX0_hasEmptyNeighbour_21
  · have h := h.2 c_1
    refine lv_iconst (v := 1) hx hb dX0_hasEmptyNeighbour_16 (by decide) ?_
    refine lv_goto (tgt := 21) hx hb dX0_hasEmptyNeighbour_17 (by decide) ?_
    exact hret 1 () _ _ _ _ _ _ (by decide) h (hP.sub [0, 1] rfl) (hD.sub [0, 1] (by decide) rfl) hS (Nat.le_of_ble_eq_true rfl) (Nat.le_of_ble_eq_true rfl) dX0_hasEmptyNeighbour_21
theorem c_X0_hasEmptyNeighbour (l : Launch) (D : va_G) (cI : ClassId) (zh za : Nat) (sz : Nat) (cc : Int32) (ac : Int32) (fc : Int32) (lc : Int32) (f : Nat → Int32) (p1 : Int32) : Met l yX0_hasEmptyNeighbour wsX0_hasEmptyNeighbour ({ frames := 2, cells := 0, slots := 0, locals := 41 } : Room) (ff_Pc D [(cI, .int)] [.ref zh, .int p1] ([(zh, .inr (0, [.ref za, .int cc, .int ac, .int fc, .int lc])), (za, .inl (cI, 10, .inl f))] : va_W) sz) (va_Qi (fun (r : Int32) (u : Unit) => r = b2i (!decide (zbs cc ac fc lc (zbit p1) &&& f 0 = 0))) (fun (u : Unit) t => ff_B D [(cI, .int)] (va_A ([(zh, .inr (0, [.ref za, .int cc, .int ac, .int fc, .int lc])), (za, .inl (cI, 10, .inl f))] : va_W) sz) [(zh, .inr (0, [.ref za, .int cc, .int ac, .int fc, .int lc])), (za, .inl (cI, 10, .inl f))] t) (va_A ([(zh, .inr (0, [.ref za, .int cc, .int ac, .int fc, .int lc])), (za, .inl (cI, 10, .inl f))] : va_W) sz)) 0 0 (va_A ([(zh, .inr (0, [.ref za, .int cc, .int ac, .int fc, .int lc])), (za, .inl (cI, 10, .inl f))] : va_W) sz) :=
  a_X0_hasEmptyNeighbour l D cI zh za sz cc ac fc lc f p1 _  (pe_X0_hasEmptyNeighbour cc ac fc lc f p1)
set_option maxHeartbeats 4000000 in
set_option maxRecDepth 100000 in
theorem a_X0_spread (l : Launch) (D : va_G) (cI : ClassId) (zh za : Nat) (sz : Nat) (cc : Int32) (ac : Int32) (fc : Int32) (lc : Int32) (f : Nat → Int32) (p1 : Int32) (p2 : Int32) (p3 : Int32) (P : Int32 → Unit → Prop) (I6 : Int32 → Int32 → Prop) (mu6 : Int32 → Int32 → Nat) (hv6 : ∀ (x4 : Int32) (x5 : Int32), I6 x4 x5 → vs_X0_spread_6 cc ac fc lc f p1 p2 p3 P (fun (x49 : Int32) (x59 : Int32) => I6 x49 x59 ∧ mu6 x49 x59 < mu6 x4 x5) x4 x5) (he : ve_X0_spread cc ac fc lc f p1 p2 p3 P I6) : Met l yX0_spread wsX0_spread ({ frames := 1, cells := 0, slots := 0, locals := 25 } : Room) (ff_Pc D [(cI, .int)] [.ref zh, .int p1, .int p2, .int p3] ([(zh, .inr (0, [.ref za, .int cc, .int ac, .int fc, .int lc])), (za, .inl (cI, 10, .inl f))] : va_W) sz) (va_Qi P (fun (u : Unit) t => ff_B D [(cI, .int)] (va_A ([(zh, .inr (0, [.ref za, .int cc, .int ac, .int fc, .int lc])), (za, .inl (cI, 10, .inl f))] : va_W) sz) [(zh, .inr (0, [.ref za, .int cc, .int ac, .int fc, .int lc])), (za, .inl (cI, 10, .inl f))] t) (va_A ([(zh, .inr (0, [.ref za, .int cc, .int ac, .int fc, .int lc])), (za, .inl (cI, 10, .inl f))] : va_W) sz)) 0 0 (va_A ([(zh, .inr (0, [.ref za, .int cc, .int ac, .int fc, .int lc])), (za, .inl (cI, 10, .inl f))] : va_W) sz) := by
  refine ff_metI (Wf := (fun (u : Unit) => ([(zh, .inr (0, [.ref za, .int cc, .int ac, .int fc, .int lc])), (za, .inl (cI, 10, .inl f))] : va_W))) (by decide +kernel) rfl (Nat.le_of_ble_eq_true rfl) ?_
  intro p e s m args below meth c A Q ls H hx hb hml hown hts hN hA hK hP hD hS hret hl
  have L6 : ∀ (N : Nat) (x4 : Int32) (x5 : Int32) (H : Heap) (locs : List Loc) (ls : Array Slot), I6 x4 x5 → mu6 x4 x5 < N → va_P D vwCl [(zh, .inr (0, [.ref za, .int cc, .int ac, .int fc, .int lc])), (za, .inl (cI, 10, .inl f))] H → va_D A [(zh, .inr (0, [.ref za, .int cc, .int ac, .int fc, .int lc])), (za, .inl (cI, 10, .inl f))] → va_S A s.heap H locs → lv_has ls 7 [(0, .ref zh), (1, .int p1), (2, .int p2), (3, .int p3), (4, .int x4), (5, .int x5)] → W p l e ({ frames := 1, cells := 0, slots := 0, locals := 25 } : Room) s m args below meth c H locs 0 0 Q (F0 m 6 ls []) := by
    intro N
    induction N with
    | zero => intros; rename_i hz _ _ _ _; exact absurd hz (Nat.not_lt_zero _)
    | succ N ih =>
      intro x4 x5 H locs ls hI hmu hP hD hS hl
      have h := hv6 x4 x5 hI
      unfold vs_X0_spread_6 at h
      refine lv_iload hx hb dX0_spread_6 (lv_at hl 5 rfl) ?_
      refine lv_iload_n hx hb dX0_spread_8 rfl (lv_at hl 3 rfl) ?_
      refine lv_icmp_ge (tgt := 45) hx hb dX0_spread_9 (by decide) (fun c_1 => ?_) (fun c_1 => ?_)
      · have h := h.1 c_1
        refine lv_iload hx hb dX0_spread_45 (lv_at hl 4 rfl) ?_
        exact hret x4 () _ _ _ _ _ _ h (hP.sub [0, 1] rfl) (hD.sub [0, 1] (by decide) rfl) hS (Nat.le_of_ble_eq_true rfl) (Nat.le_of_ble_eq_true rfl) dX0_spread_47
      · have h := h.2 c_1
        refine lv_iload hx hb dX0_spread_12 (lv_at hl 4 rfl) ?_
        refine lv_aload_n hx hb dX0_spread_14 rfl (lv_at hl 0 rfl) ?_
        refine lv_iload hx hb dX0_spread_15 (lv_at hl 4 rfl) ?_
        have hPc := hP.sub (ws' := [(zh, .inr (0, [.ref za, .int cc, .int ac, .int fc, .int lc])), (za, .inl (cI, 10, .inl f))]) [0, 1] rfl
        have hDc := hD.sub (ws' := [(zh, .inr (0, [.ref za, .int cc, .int ac, .int fc, .int lc])), (za, .inl (cI, 10, .inl f))]) [0, 1] (by decide) rfl
        refine ff_callI (va_runV (As := [.int x4]) (rest := [.int x4]) ⟨hx, hb, hml, hown, hts⟩ (c_X0_beside l D cI zh za H.size cc ac fc lc f x4) (cwV 1 hts gX0_spread_X0_beside rfl rfl rfl (by decide +kernel) ⟨Nat.le_of_ble_eq_true rfl, Nat.le_of_ble_eq_true rfl⟩) (ff_preV (q := (RX0, TX0, 5)) (ci := 0) (q0 := 0) hPc hK hDc hN rfl rfl) rfl rfl hl.1 rfl (lv_room (Nat.le_of_ble_eq_true rfl)) dX0_spread_17 ⟨Nat.le_of_ble_eq_true rfl, Nat.le_of_ble_eq_true rfl⟩) hP hD hS hA [0, 1] [] (wr := []) rfl rfl (by decide) (by decide) (fun r u H locs hw hP hD hS => ?_)
        replace hw := hw.symm
        subst hw
        have hP : va_P D vwCl [(zh, .inr (0, [.ref za, .int cc, .int ac, .int fc, .int lc])), (za, .inl (cI, 10, .inl f))] H := hP
        have hD : va_D A [(zh, .inr (0, [.ref za, .int cc, .int ac, .int fc, .int lc])), (za, .inl (cI, 10, .inl f))] := hD
        refine lv_iload_n hx hb dX0_spread_20 rfl (lv_at hl 2 rfl) ?_
        refine lv_iand hx hb dX0_spread_21 ?_
        refine lv_ior hx hb dX0_spread_22 ?_
        refine lv_topi (fun y_2 ey_2 => ?_)
        have h := h y_2 ey_2
        refine lv_istore (lv' := [(6, .int y_2), (0, .ref zh), (1, .int p1), (2, .int p2), (3, .int p3), (4, .int x4), (5, .int x5)]) hx hb dX0_spread_23 hl (by decide) rfl (fun ls hl => ?_)
        refine lv_iload hx hb dX0_spread_25 (lv_at hl 0 rfl) ?_
        refine lv_iload hx hb dX0_spread_27 (lv_at hl 5 rfl) ?_
        refine lv_icmp_ne (tgt := 35) hx hb dX0_spread_29 (by decide) (fun c_3 => ?_) (fun c_3 => ?_)
        · have h := h.2 c_3
          refine lv_iload hx hb dX0_spread_35 (lv_at hl 0 rfl) ?_
          refine lv_istore (lv' := [(4, .int y_2), (6, .int y_2), (0, .ref zh), (1, .int p1), (2, .int p2), (3, .int p3), (5, .int x5)]) hx hb dX0_spread_37 hl (by decide) rfl (fun ls hl => ?_)
          obtain ⟨y_4, ey_4⟩ : ∃ y : Int32, y = x5 + 1 := ⟨_, rfl⟩
          have h := h y_4 ey_4
          refine lv_iinc (v := y_4) (lv' := [(5, .int y_4), (4, .int y_2), (6, .int y_2), (0, .ref zh), (1, .int p1), (2, .int p2), (3, .int p3)]) hx hb dX0_spread_39 hl (k := 6) rfl (by rw [ey_4]; rfl) (by decide) rfl (fun ls hl => ?_)
          refine lv_goto (tgt := 6) hx hb dX0_spread_42 (by decide) ?_
          exact ih _ _ _ _ _ h.1 (Nat.lt_of_lt_of_le h.2 (Nat.le_of_lt_succ hmu)) (hP.sub [0, 1] rfl) (hD.sub [0, 1] (by decide) rfl) hS (lv_sub hl [3, 4, 5, 6, 1, 0] rfl)
        · have h := h.1 c_3
          refine lv_iload hx hb dX0_spread_32 (lv_at hl 5 rfl) ?_
          exact hret x4 () _ _ _ _ _ _ h (hP.sub [0, 1] rfl) (hD.sub [0, 1] (by decide) rfl) hS (Nat.le_of_ble_eq_true rfl) (Nat.le_of_ble_eq_true rfl) dX0_spread_34
  have h := he
  unfold ve_X0_spread at h
  have hl : lv_has ls 7 [(0, .ref zh), (1, .int p1), (2, .int p2), (3, .int p3)] := hl
  refine lv_iload_n hx hb dX0_spread_0 rfl (lv_at hl 1 rfl) ?_
  refine lv_istore (lv' := [(4, .int p1), (0, .ref zh), (1, .int p1), (2, .int p2), (3, .int p3)]) hx hb dX0_spread_1 hl (by decide) rfl (fun ls hl => ?_)
  refine lv_iconst (v := 0) hx hb dX0_spread_3 (by decide) ?_
  refine lv_istore (lv' := [(5, .int 0), (4, .int p1), (0, .ref zh), (1, .int p1), (2, .int p2), (3, .int p3)]) hx hb dX0_spread_4 hl (by decide) rfl (fun ls hl => ?_)
  exact L6 _ _ _ _ _ _ h (Nat.lt_succ_self _) (hP.sub [0, 1] rfl) (hD.sub [0, 1] (by decide) rfl) hS (lv_sub hl [2, 3, 4, 5, 1, 0] rfl)
theorem c_X0_spread (l : Launch) (D : va_G) (cI : ClassId) (zh za : Nat) (sz : Nat) (cc : Int32) (ac : Int32) (fc : Int32) (lc : Int32) (f : Nat → Int32) (p1 : Int32) (p2 : Int32) (p3 : Int32) : Met l yX0_spread wsX0_spread ({ frames := 1, cells := 0, slots := 0, locals := 25 } : Room) (ff_Pc D [(cI, .int)] [.ref zh, .int p1, .int p2, .int p3] ([(zh, .inr (0, [.ref za, .int cc, .int ac, .int fc, .int lc])), (za, .inl (cI, 10, .inl f))] : va_W) sz) (va_Qi (fun (r : Int32) (u : Unit) => r = zsp cc ac fc lc p2 ((p3 : Int32).toNatClampNeg) p1) (fun (u : Unit) t => ff_B D [(cI, .int)] (va_A ([(zh, .inr (0, [.ref za, .int cc, .int ac, .int fc, .int lc])), (za, .inl (cI, 10, .inl f))] : va_W) sz) [(zh, .inr (0, [.ref za, .int cc, .int ac, .int fc, .int lc])), (za, .inl (cI, 10, .inl f))] t) (va_A ([(zh, .inr (0, [.ref za, .int cc, .int ac, .int fc, .int lc])), (za, .inl (cI, 10, .inl f))] : va_W) sz)) 0 0 (va_A ([(zh, .inr (0, [.ref za, .int cc, .int ac, .int fc, .int lc])), (za, .inl (cI, 10, .inl f))] : va_W) sz) :=
  a_X0_spread l D cI zh za sz cc ac fc lc f p1 p2 p3 _ (I_X0_spread_6 cc ac fc lc f p1 p2 p3) (mu_X0_spread_6 cc ac fc lc f p1 p2 p3) (pl_X0_spread_6 cc ac fc lc f p1 p2 p3) (pe_X0_spread cc ac fc lc f p1 p2 p3)
set_option maxHeartbeats 4000000 in
set_option maxRecDepth 100000 in
theorem a_X0_fieldOf (l : Launch) (D : va_G) (cI : ClassId) (zh za : Nat) (sz : Nat) (cc : Int32) (ac : Int32) (fc : Int32) (lc : Int32) (f : Nat → Int32) (p1 : Int32) (P : Int32 → Unit → Prop)  (he : ve_X0_fieldOf cc ac fc lc f p1 P ) : Met l yX0_fieldOf wsX0_fieldOf ({ frames := 3, cells := 0, slots := 0, locals := 63 } : Room) (ff_Pc D [(cI, .int)] [.ref zh, .int p1] ([(zh, .inr (0, [.ref za, .int cc, .int ac, .int fc, .int lc])), (za, .inl (cI, 10, .inl f))] : va_W) sz) (va_Qi P (fun (u : Unit) t => ff_B D [(cI, .int)] (va_A ([(zh, .inr (0, [.ref za, .int cc, .int ac, .int fc, .int lc])), (za, .inl (cI, 10, .inl f))] : va_W) sz) [(zh, .inr (0, [.ref za, .int cc, .int ac, .int fc, .int lc])), (za, .inl (cI, 10, .inl f))] t) (va_A ([(zh, .inr (0, [.ref za, .int cc, .int ac, .int fc, .int lc])), (za, .inl (cI, 10, .inl f))] : va_W) sz)) 0 0 (va_A ([(zh, .inr (0, [.ref za, .int cc, .int ac, .int fc, .int lc])), (za, .inl (cI, 10, .inl f))] : va_W) sz) := by
  refine ff_metI (Wf := (fun (u : Unit) => ([(zh, .inr (0, [.ref za, .int cc, .int ac, .int fc, .int lc])), (za, .inl (cI, 10, .inl f))] : va_W))) (by decide +kernel) rfl (Nat.le_of_ble_eq_true rfl) ?_
  intro p e s m args below meth c A Q ls H hx hb hml hown hts hN hA hK hP hD hS hret hl
  have h := he
  unfold ve_X0_fieldOf at h
  have hl : lv_has ls 3 [(0, .ref zh), (1, .int p1)] := hl
  refine lv_aload_n hx hb dX0_fieldOf_0 rfl (lv_at hl 0 rfl) ?_
  refine lv_iload_n hx hb dX0_fieldOf_1 rfl (lv_at hl 1 rfl) ?_
  have hPc := hP.sub (ws' := [(zh, .inr (0, [.ref za, .int cc, .int ac, .int fc, .int lc])), (za, .inl (cI, 10, .inl f))]) [0, 1] rfl
  have hDc := hD.sub (ws' := [(zh, .inr (0, [.ref za, .int cc, .int ac, .int fc, .int lc])), (za, .inl (cI, 10, .inl f))]) [0, 1] (by decide) rfl
  refine ff_callI (va_runV (As := [.int p1]) (rest := []) ⟨hx, hb, hml, hown, hts⟩ (c_X0_numberIn l D cI zh za H.size cc ac fc lc f p1) (cwV 1 hts gX0_fieldOf_X0_numberIn rfl rfl rfl (by decide +kernel) ⟨Nat.le_of_ble_eq_true rfl, Nat.le_of_ble_eq_true rfl⟩) (ff_preV (q := (RX0, TX0, 5)) (ci := 0) (q0 := 0) hPc hK hDc hN rfl rfl) rfl rfl hl.1 rfl (lv_room (Nat.le_of_ble_eq_true rfl)) dX0_fieldOf_2 ⟨Nat.le_of_ble_eq_true rfl, Nat.le_of_ble_eq_true rfl⟩) hP hD hS hA [0, 1] [] (wr := []) rfl rfl (by decide) (by decide) (fun r u H locs hw hP hD hS => ?_)
  replace hw := hw.symm
  subst hw
  have hP : va_P D vwCl [(zh, .inr (0, [.ref za, .int cc, .int ac, .int fc, .int lc])), (za, .inl (cI, 10, .inl f))] H := hP
  have hD : va_D A [(zh, .inr (0, [.ref za, .int cc, .int ac, .int fc, .int lc])), (za, .inl (cI, 10, .inl f))] := hD
  refine lv_topi (fun y_1 ey_1 => ?_)
  have h := h y_1 ey_1
  refine lv_istore_n (lv' := [(2, .int y_1), (0, .ref zh), (1, .int p1)]) hx hb dX0_fieldOf_5 rfl hl (by decide) rfl (fun ls hl => ?_)
  refine lv_iload_n hx hb dX0_fieldOf_6 rfl (lv_at hl 0 rfl) ?_
  refine lv_if_ne (tgt := 14) hx hb dX0_fieldOf_7 (by decide) (fun c_2 => ?_) (fun c_2 => ?_)
  · have h := h.2 c_2
    refine lv_aload_n hx hb dX0_fieldOf_14 rfl (lv_at hl 1 rfl) ?_
    refine lv_iload_n hx hb dX0_fieldOf_15 rfl (lv_at hl 2 rfl) ?_
    have hPc := hP.sub (ws' := []) [] rfl
    have hDc := hD.sub (ws' := []) [] (by decide) rfl
    refine ff_callI (va_runS (As := [.int p1]) (rest := [.ref zh]) ⟨hx, hb, hml, hown, hts⟩ (c_X0_bit l D cI H.size p1) (va_cwS 1 hts gX0_fieldOf_X0_bit rfl rfl rfl (by decide +kernel) ⟨Nat.le_of_ble_eq_true rfl, Nat.le_of_ble_eq_true rfl⟩) (ff_preS hPc hK hDc hN) rfl rfl hl.1 rfl (lv_room (Nat.le_of_ble_eq_true rfl)) dX0_fieldOf_16 ⟨Nat.le_of_ble_eq_true rfl, Nat.le_of_ble_eq_true rfl⟩) hP hD hS hA [] [0, 1] (wr := [(zh, .inr (0, [.ref za, .int cc, .int ac, .int fc, .int lc])), (za, .inl (cI, 10, .inl f))]) rfl rfl (by decide) (by decide) (fun r u H locs hw hP hD hS => ?_)
    replace hw := hw.symm
    subst hw
    have hP : va_P D vwCl [(zh, .inr (0, [.ref za, .int cc, .int ac, .int fc, .int lc])), (za, .inl (cI, 10, .inl f))] H := hP
    have hD : va_D A [(zh, .inr (0, [.ref za, .int cc, .int ac, .int fc, .int lc])), (za, .inl (cI, 10, .inl f))] := hD
    refine lv_aload_n hx hb dX0_fieldOf_19 rfl (lv_at hl 1 rfl) ?_
    refine lv_iload_n hx hb dX0_fieldOf_20 rfl (lv_at hl 0 rfl) ?_
    have hPc := hP.sub (ws' := [(zh, .inr (0, [.ref za, .int cc, .int ac, .int fc, .int lc])), (za, .inl (cI, 10, .inl f))]) [0, 1] rfl
    have hDc := hD.sub (ws' := [(zh, .inr (0, [.ref za, .int cc, .int ac, .int fc, .int lc])), (za, .inl (cI, 10, .inl f))]) [0, 1] (by decide) rfl
    refine ff_callI (va_runV (As := [.int y_1]) (rest := [.int (zbit p1), .ref zh]) ⟨hx, hb, hml, hown, hts⟩ (c_X0_cellsWith l D cI zh za H.size cc ac fc lc f y_1) (cwV 1 hts gX0_fieldOf_X0_cellsWith rfl rfl rfl (by decide +kernel) ⟨Nat.le_of_ble_eq_true rfl, Nat.le_of_ble_eq_true rfl⟩) (ff_preV (q := (RX0, TX0, 5)) (ci := 0) (q0 := 0) hPc hK hDc hN rfl rfl) rfl rfl hl.1 rfl (lv_room (Nat.le_of_ble_eq_true rfl)) dX0_fieldOf_21 ⟨Nat.le_of_ble_eq_true rfl, Nat.le_of_ble_eq_true rfl⟩) hP hD hS hA [0, 1] [] (wr := []) rfl rfl (by decide) (by decide) (fun r u H locs hw hP hD hS => ?_)
    replace hw := hw.symm
    subst hw
    have hP : va_P D vwCl [(zh, .inr (0, [.ref za, .int cc, .int ac, .int fc, .int lc])), (za, .inl (cI, 10, .inl f))] H := hP
    have hD : va_D A [(zh, .inr (0, [.ref za, .int cc, .int ac, .int fc, .int lc])), (za, .inl (cI, 10, .inl f))] := hD
    refine lv_bipush (v := 12) hx hb dX0_fieldOf_24 (by decide) ?_
    have hPc := hP.sub (ws' := [(zh, .inr (0, [.ref za, .int cc, .int ac, .int fc, .int lc])), (za, .inl (cI, 10, .inl f))]) [0, 1] rfl
    have hDc := hD.sub (ws' := [(zh, .inr (0, [.ref za, .int cc, .int ac, .int fc, .int lc])), (za, .inl (cI, 10, .inl f))]) [0, 1] (by decide) rfl
    refine ff_callI (va_runV (As := [.int (zbit p1), .int (zcw f y_1), .int 12]) (rest := []) ⟨hx, hb, hml, hown, hts⟩ (c_X0_spread l D cI zh za H.size cc ac fc lc f (zbit p1) (zcw f y_1) 12) (cwV 3 hts gX0_fieldOf_X0_spread rfl rfl rfl (by decide +kernel) ⟨Nat.le_of_ble_eq_true rfl, Nat.le_of_ble_eq_true rfl⟩) (ff_preV (q := (RX0, TX0, 5)) (ci := 0) (q0 := 0) hPc hK hDc hN rfl rfl) rfl rfl hl.1 rfl (lv_room (Nat.le_of_ble_eq_true rfl)) dX0_fieldOf_26 ⟨Nat.le_of_ble_eq_true rfl, Nat.le_of_ble_eq_true rfl⟩) hP hD hS hA [0, 1] [] (wr := []) rfl rfl (by decide) (by decide) (fun r u H locs hw hP hD hS => ?_)
    replace hw := hw.symm
    subst hw
    have hP : va_P D vwCl [(zh, .inr (0, [.ref za, .int cc, .int ac, .int fc, .int lc])), (za, .inl (cI, 10, .inl f))] H := hP
    have hD : va_D A [(zh, .inr (0, [.ref za, .int cc, .int ac, .int fc, .int lc])), (za, .inl (cI, 10, .inl f))] := hD
    exact hret (zsp cc ac fc lc (zcw f y_1) ((12 : Int32).toNatClampNeg) (zbit p1)) () _ _ _ _ _ _ h (hP.sub [0, 1] rfl) (hD.sub [0, 1] (by decide) rfl) hS (Nat.le_of_ble_eq_true rfl) (Nat.le_of_ble_eq_true rfl) dX0_fieldOf_29
  · have h := h.1 c_2
    refine lv_iconst (v := 0) hx hb dX0_fieldOf_10 (by decide) ?_
    refine lv_goto (tgt := 29) hx hb dX0_fieldOf_11 (by decide) ?_
    exact hret 0 () _ _ _ _ _ _ h (hP.sub [0, 1] rfl) (hD.sub [0, 1] (by decide) rfl) hS (Nat.le_of_ble_eq_true rfl) (Nat.le_of_ble_eq_true rfl) dX0_fieldOf_29
theorem c_X0_fieldOf (l : Launch) (D : va_G) (cI : ClassId) (zh za : Nat) (sz : Nat) (cc : Int32) (ac : Int32) (fc : Int32) (lc : Int32) (f : Nat → Int32) (p1 : Int32) : Met l yX0_fieldOf wsX0_fieldOf ({ frames := 3, cells := 0, slots := 0, locals := 63 } : Room) (ff_Pc D [(cI, .int)] [.ref zh, .int p1] ([(zh, .inr (0, [.ref za, .int cc, .int ac, .int fc, .int lc])), (za, .inl (cI, 10, .inl f))] : va_W) sz) (va_Qi (fun (r : Int32) (u : Unit) => r = zfo cc ac fc lc f p1) (fun (u : Unit) t => ff_B D [(cI, .int)] (va_A ([(zh, .inr (0, [.ref za, .int cc, .int ac, .int fc, .int lc])), (za, .inl (cI, 10, .inl f))] : va_W) sz) [(zh, .inr (0, [.ref za, .int cc, .int ac, .int fc, .int lc])), (za, .inl (cI, 10, .inl f))] t) (va_A ([(zh, .inr (0, [.ref za, .int cc, .int ac, .int fc, .int lc])), (za, .inl (cI, 10, .inl f))] : va_W) sz)) 0 0 (va_A ([(zh, .inr (0, [.ref za, .int cc, .int ac, .int fc, .int lc])), (za, .inl (cI, 10, .inl f))] : va_W) sz) :=
  a_X0_fieldOf l D cI zh za sz cc ac fc lc f p1 _  (pe_X0_fieldOf cc ac fc lc f p1)
set_option maxHeartbeats 4000000 in
set_option maxRecDepth 100000 in
theorem a_X0_roomOf (l : Launch) (D : va_G) (cI : ClassId) (zh za : Nat) (sz : Nat) (cc : Int32) (ac : Int32) (fc : Int32) (lc : Int32) (f : Nat → Int32) (p1 : Int32) (P : Int32 → Unit → Prop)  (he : ve_X0_roomOf cc ac fc lc f p1 P ) : Met l yX0_roomOf wsX0_roomOf ({ frames := 3, cells := 0, slots := 0, locals := 63 } : Room) (ff_Pc D [(cI, .int)] [.ref zh, .int p1] ([(zh, .inr (0, [.ref za, .int cc, .int ac, .int fc, .int lc])), (za, .inl (cI, 10, .inl f))] : va_W) sz) (va_Qi P (fun (u : Unit) t => ff_B D [(cI, .int)] (va_A ([(zh, .inr (0, [.ref za, .int cc, .int ac, .int fc, .int lc])), (za, .inl (cI, 10, .inl f))] : va_W) sz) [(zh, .inr (0, [.ref za, .int cc, .int ac, .int fc, .int lc])), (za, .inl (cI, 10, .inl f))] t) (va_A ([(zh, .inr (0, [.ref za, .int cc, .int ac, .int fc, .int lc])), (za, .inl (cI, 10, .inl f))] : va_W) sz)) 0 0 (va_A ([(zh, .inr (0, [.ref za, .int cc, .int ac, .int fc, .int lc])), (za, .inl (cI, 10, .inl f))] : va_W) sz) := by
  refine ff_metI (Wf := (fun (u : Unit) => ([(zh, .inr (0, [.ref za, .int cc, .int ac, .int fc, .int lc])), (za, .inl (cI, 10, .inl f))] : va_W))) (by decide +kernel) rfl (Nat.le_of_ble_eq_true rfl) ?_
  intro p e s m args below meth c A Q ls H hx hb hml hown hts hN hA hK hP hD hS hret hl
  have h := he
  unfold ve_X0_roomOf at h
  have hl : lv_has ls 3 [(0, .ref zh), (1, .int p1)] := hl
  refine lv_aload_n hx hb dX0_roomOf_0 rfl (lv_at hl 0 rfl) ?_
  refine lv_iload_n hx hb dX0_roomOf_1 rfl (lv_at hl 1 rfl) ?_
  have hPc := hP.sub (ws' := [(zh, .inr (0, [.ref za, .int cc, .int ac, .int fc, .int lc])), (za, .inl (cI, 10, .inl f))]) [0, 1] rfl
  have hDc := hD.sub (ws' := [(zh, .inr (0, [.ref za, .int cc, .int ac, .int fc, .int lc])), (za, .inl (cI, 10, .inl f))]) [0, 1] (by decide) rfl
  refine ff_callI (va_runV (As := [.int p1]) (rest := []) ⟨hx, hb, hml, hown, hts⟩ (c_X0_numberIn l D cI zh za H.size cc ac fc lc f p1) (cwV 1 hts gX0_roomOf_X0_numberIn rfl rfl rfl (by decide +kernel) ⟨Nat.le_of_ble_eq_true rfl, Nat.le_of_ble_eq_true rfl⟩) (ff_preV (q := (RX0, TX0, 5)) (ci := 0) (q0 := 0) hPc hK hDc hN rfl rfl) rfl rfl hl.1 rfl (lv_room (Nat.le_of_ble_eq_true rfl)) dX0_roomOf_2 ⟨Nat.le_of_ble_eq_true rfl, Nat.le_of_ble_eq_true rfl⟩) hP hD hS hA [0, 1] [] (wr := []) rfl rfl (by decide) (by decide) (fun r u H locs hw hP hD hS => ?_)
  replace hw := hw.symm
  subst hw
  have hP : va_P D vwCl [(zh, .inr (0, [.ref za, .int cc, .int ac, .int fc, .int lc])), (za, .inl (cI, 10, .inl f))] H := hP
  have hD : va_D A [(zh, .inr (0, [.ref za, .int cc, .int ac, .int fc, .int lc])), (za, .inl (cI, 10, .inl f))] := hD
  refine lv_topi (fun y_1 ey_1 => ?_)
  have h := h y_1 ey_1
  refine lv_istore_n (lv' := [(2, .int y_1), (0, .ref zh), (1, .int p1)]) hx hb dX0_roomOf_5 rfl hl (by decide) rfl (fun ls hl => ?_)
  refine lv_iload_n hx hb dX0_roomOf_6 rfl (lv_at hl 0 rfl) ?_
  refine lv_if_ne (tgt := 14) hx hb dX0_roomOf_7 (by decide) (fun c_2 => ?_) (fun c_2 => ?_)
  · have h := h.2 c_2
    refine lv_aload_n hx hb dX0_roomOf_14 rfl (lv_at hl 1 rfl) ?_
    refine lv_iload_n hx hb dX0_roomOf_15 rfl (lv_at hl 2 rfl) ?_
    have hPc := hP.sub (ws' := []) [] rfl
    have hDc := hD.sub (ws' := []) [] (by decide) rfl
    refine ff_callI (va_runS (As := [.int p1]) (rest := [.ref zh]) ⟨hx, hb, hml, hown, hts⟩ (c_X0_bit l D cI H.size p1) (va_cwS 1 hts gX0_roomOf_X0_bit rfl rfl rfl (by decide +kernel) ⟨Nat.le_of_ble_eq_true rfl, Nat.le_of_ble_eq_true rfl⟩) (ff_preS hPc hK hDc hN) rfl rfl hl.1 rfl (lv_room (Nat.le_of_ble_eq_true rfl)) dX0_roomOf_16 ⟨Nat.le_of_ble_eq_true rfl, Nat.le_of_ble_eq_true rfl⟩) hP hD hS hA [] [0, 1] (wr := [(zh, .inr (0, [.ref za, .int cc, .int ac, .int fc, .int lc])), (za, .inl (cI, 10, .inl f))]) rfl rfl (by decide) (by decide) (fun r u H locs hw hP hD hS => ?_)
    replace hw := hw.symm
    subst hw
    have hP : va_P D vwCl [(zh, .inr (0, [.ref za, .int cc, .int ac, .int fc, .int lc])), (za, .inl (cI, 10, .inl f))] H := hP
    have hD : va_D A [(zh, .inr (0, [.ref za, .int cc, .int ac, .int fc, .int lc])), (za, .inl (cI, 10, .inl f))] := hD
    refine lv_aload_n hx hb dX0_roomOf_19 rfl (lv_at hl 1 rfl) ?_
    refine lv_iload_n hx hb dX0_roomOf_20 rfl (lv_at hl 0 rfl) ?_
    have hPc := hP.sub (ws' := [(zh, .inr (0, [.ref za, .int cc, .int ac, .int fc, .int lc])), (za, .inl (cI, 10, .inl f))]) [0, 1] rfl
    have hDc := hD.sub (ws' := [(zh, .inr (0, [.ref za, .int cc, .int ac, .int fc, .int lc])), (za, .inl (cI, 10, .inl f))]) [0, 1] (by decide) rfl
    refine ff_callI (va_runV (As := [.int y_1]) (rest := [.int (zbit p1), .ref zh]) ⟨hx, hb, hml, hown, hts⟩ (c_X0_cellsWith l D cI zh za H.size cc ac fc lc f y_1) (cwV 1 hts gX0_roomOf_X0_cellsWith rfl rfl rfl (by decide +kernel) ⟨Nat.le_of_ble_eq_true rfl, Nat.le_of_ble_eq_true rfl⟩) (ff_preV (q := (RX0, TX0, 5)) (ci := 0) (q0 := 0) hPc hK hDc hN rfl rfl) rfl rfl hl.1 rfl (lv_room (Nat.le_of_ble_eq_true rfl)) dX0_roomOf_21 ⟨Nat.le_of_ble_eq_true rfl, Nat.le_of_ble_eq_true rfl⟩) hP hD hS hA [0, 1] [] (wr := []) rfl rfl (by decide) (by decide) (fun r u H locs hw hP hD hS => ?_)
    replace hw := hw.symm
    subst hw
    have hP : va_P D vwCl [(zh, .inr (0, [.ref za, .int cc, .int ac, .int fc, .int lc])), (za, .inl (cI, 10, .inl f))] H := hP
    have hD : va_D A [(zh, .inr (0, [.ref za, .int cc, .int ac, .int fc, .int lc])), (za, .inl (cI, 10, .inl f))] := hD
    refine lv_aload_n hx hb dX0_roomOf_24 rfl (lv_at hl 1 rfl) ?_
    have hPc := hP.sub (ws' := [(zh, .inr (0, [.ref za, .int cc, .int ac, .int fc, .int lc])), (za, .inl (cI, 10, .inl f))]) [0, 1] rfl
    have hDc := hD.sub (ws' := [(zh, .inr (0, [.ref za, .int cc, .int ac, .int fc, .int lc])), (za, .inl (cI, 10, .inl f))]) [0, 1] (by decide) rfl
    refine ff_callI (va_runV (As := []) (rest := [.int (zcw f y_1), .int (zbit p1), .ref zh]) ⟨hx, hb, hml, hown, hts⟩ (c_X0_emptyCells l D cI zh za H.size cc ac fc lc f) (cwV 0 hts gX0_roomOf_X0_emptyCells rfl rfl rfl (by decide +kernel) ⟨Nat.le_of_ble_eq_true rfl, Nat.le_of_ble_eq_true rfl⟩) (ff_preV (q := (RX0, TX0, 5)) (ci := 0) (q0 := 0) hPc hK hDc hN rfl rfl) rfl rfl hl.1 rfl (lv_room (Nat.le_of_ble_eq_true rfl)) dX0_roomOf_25 ⟨Nat.le_of_ble_eq_true rfl, Nat.le_of_ble_eq_true rfl⟩) hP hD hS hA [0, 1] [] (wr := []) rfl rfl (by decide) (by decide) (fun r u H locs hw hP hD hS => ?_)
    replace hw := hw.symm
    subst hw
    have hP : va_P D vwCl [(zh, .inr (0, [.ref za, .int cc, .int ac, .int fc, .int lc])), (za, .inl (cI, 10, .inl f))] H := hP
    have hD : va_D A [(zh, .inr (0, [.ref za, .int cc, .int ac, .int fc, .int lc])), (za, .inl (cI, 10, .inl f))] := hD
    refine lv_ior hx hb dX0_roomOf_28 ?_
    refine lv_bipush (v := 12) hx hb dX0_roomOf_29 (by decide) ?_
    have hPc := hP.sub (ws' := [(zh, .inr (0, [.ref za, .int cc, .int ac, .int fc, .int lc])), (za, .inl (cI, 10, .inl f))]) [0, 1] rfl
    have hDc := hD.sub (ws' := [(zh, .inr (0, [.ref za, .int cc, .int ac, .int fc, .int lc])), (za, .inl (cI, 10, .inl f))]) [0, 1] (by decide) rfl
    refine ff_callI (va_runV (As := [.int (zbit p1), .int ((zcw f y_1) ||| (f 0)), .int 12]) (rest := []) ⟨hx, hb, hml, hown, hts⟩ (c_X0_spread l D cI zh za H.size cc ac fc lc f (zbit p1) ((zcw f y_1) ||| (f 0)) 12) (cwV 3 hts gX0_roomOf_X0_spread rfl rfl rfl (by decide +kernel) ⟨Nat.le_of_ble_eq_true rfl, Nat.le_of_ble_eq_true rfl⟩) (ff_preV (q := (RX0, TX0, 5)) (ci := 0) (q0 := 0) hPc hK hDc hN rfl rfl) rfl rfl hl.1 rfl (lv_room (Nat.le_of_ble_eq_true rfl)) dX0_roomOf_31 ⟨Nat.le_of_ble_eq_true rfl, Nat.le_of_ble_eq_true rfl⟩) hP hD hS hA [0, 1] [] (wr := []) rfl rfl (by decide) (by decide) (fun r u H locs hw hP hD hS => ?_)
    replace hw := hw.symm
    subst hw
    have hP : va_P D vwCl [(zh, .inr (0, [.ref za, .int cc, .int ac, .int fc, .int lc])), (za, .inl (cI, 10, .inl f))] H := hP
    have hD : va_D A [(zh, .inr (0, [.ref za, .int cc, .int ac, .int fc, .int lc])), (za, .inl (cI, 10, .inl f))] := hD
    exact hret (zsp cc ac fc lc ((zcw f y_1) ||| (f 0)) ((12 : Int32).toNatClampNeg) (zbit p1)) () _ _ _ _ _ _ h (hP.sub [0, 1] rfl) (hD.sub [0, 1] (by decide) rfl) hS (Nat.le_of_ble_eq_true rfl) (Nat.le_of_ble_eq_true rfl) dX0_roomOf_34
  · have h := h.1 c_2
    refine lv_iconst (v := 0) hx hb dX0_roomOf_10 (by decide) ?_
    refine lv_goto (tgt := 34) hx hb dX0_roomOf_11 (by decide) ?_
    exact hret 0 () _ _ _ _ _ _ h (hP.sub [0, 1] rfl) (hD.sub [0, 1] (by decide) rfl) hS (Nat.le_of_ble_eq_true rfl) (Nat.le_of_ble_eq_true rfl) dX0_roomOf_34
theorem c_X0_roomOf (l : Launch) (D : va_G) (cI : ClassId) (zh za : Nat) (sz : Nat) (cc : Int32) (ac : Int32) (fc : Int32) (lc : Int32) (f : Nat → Int32) (p1 : Int32) : Met l yX0_roomOf wsX0_roomOf ({ frames := 3, cells := 0, slots := 0, locals := 63 } : Room) (ff_Pc D [(cI, .int)] [.ref zh, .int p1] ([(zh, .inr (0, [.ref za, .int cc, .int ac, .int fc, .int lc])), (za, .inl (cI, 10, .inl f))] : va_W) sz) (va_Qi (fun (r : Int32) (u : Unit) => r = zro cc ac fc lc f p1) (fun (u : Unit) t => ff_B D [(cI, .int)] (va_A ([(zh, .inr (0, [.ref za, .int cc, .int ac, .int fc, .int lc])), (za, .inl (cI, 10, .inl f))] : va_W) sz) [(zh, .inr (0, [.ref za, .int cc, .int ac, .int fc, .int lc])), (za, .inl (cI, 10, .inl f))] t) (va_A ([(zh, .inr (0, [.ref za, .int cc, .int ac, .int fc, .int lc])), (za, .inl (cI, 10, .inl f))] : va_W) sz)) 0 0 (va_A ([(zh, .inr (0, [.ref za, .int cc, .int ac, .int fc, .int lc])), (za, .inl (cI, 10, .inl f))] : va_W) sz) :=
  a_X0_roomOf l D cI zh za sz cc ac fc lc f p1 _  (pe_X0_roomOf cc ac fc lc f p1)
set_option maxHeartbeats 4000000 in
set_option maxRecDepth 100000 in
theorem a_X0_hasTooLargeField (l : Launch) (D : va_G) (cI : ClassId) (zh za : Nat) (sz : Nat) (cc : Int32) (ac : Int32) (fc : Int32) (lc : Int32) (f : Nat → Int32) (p1 : Int32) (P : Int32 → Unit → Prop) (I11 : Int32 → Int32 → Int32 → Prop) (mu11 : Int32 → Int32 → Int32 → Nat) (hv11 : ∀ (x2 : Int32) (x3 : Int32) (x4 : Int32), I11 x2 x3 x4 → vs_X0_hasTooLargeField_11 cc ac fc lc f p1 P (fun (x29 : Int32) (x39 : Int32) (x49 : Int32) => I11 x29 x39 x49 ∧ mu11 x29 x39 x49 < mu11 x2 x3 x4) x2 x3 x4) (he : ve_X0_hasTooLargeField cc ac fc lc f p1 P I11) : Met l yX0_hasTooLargeField wsX0_hasTooLargeField ({ frames := 2, cells := 0, slots := 0, locals := 51 } : Room) (ff_Pc D [(cI, .int)] [.ref zh, .int p1] ([(zh, .inr (0, [.ref za, .int cc, .int ac, .int fc, .int lc])), (za, .inl (cI, 10, .inl f))] : va_W) sz) (va_Qi P (fun (u : Unit) t => ff_B D [(cI, .int)] (va_A ([(zh, .inr (0, [.ref za, .int cc, .int ac, .int fc, .int lc])), (za, .inl (cI, 10, .inl f))] : va_W) sz) [(zh, .inr (0, [.ref za, .int cc, .int ac, .int fc, .int lc])), (za, .inl (cI, 10, .inl f))] t) (va_A ([(zh, .inr (0, [.ref za, .int cc, .int ac, .int fc, .int lc])), (za, .inl (cI, 10, .inl f))] : va_W) sz)) 0 0 (va_A ([(zh, .inr (0, [.ref za, .int cc, .int ac, .int fc, .int lc])), (za, .inl (cI, 10, .inl f))] : va_W) sz) := by
  refine ff_metZ (Wf := (fun (u : Unit) => ([(zh, .inr (0, [.ref za, .int cc, .int ac, .int fc, .int lc])), (za, .inl (cI, 10, .inl f))] : va_W))) (by decide +kernel) rfl (Nat.le_of_ble_eq_true rfl) ?_
  intro p e s m args below meth c A Q ls H hx hb hml hown hts hN hA hK hP hD hS hret hl
  have L11 : ∀ (N : Nat) (x2 : Int32) (x3 : Int32) (x4 : Int32) (H : Heap) (locs : List Loc) (ls : Array Slot), I11 x2 x3 x4 → mu11 x2 x3 x4 < N → va_P D vwCl [(zh, .inr (0, [.ref za, .int cc, .int ac, .int fc, .int lc])), (za, .inl (cI, 10, .inl f))] H → va_D A [(zh, .inr (0, [.ref za, .int cc, .int ac, .int fc, .int lc])), (za, .inl (cI, 10, .inl f))] → va_S A s.heap H locs → lv_has ls 6 [(0, .ref zh), (1, .int p1), (2, .int x2), (3, .int x3), (4, .int x4)] → W p l e ({ frames := 2, cells := 0, slots := 0, locals := 51 } : Room) s m args below meth c H locs 0 0 Q (F0 m 11 ls []) := by
    intro N
    induction N with
    | zero => intros; rename_i hz _ _ _ _; exact absurd hz (Nat.not_lt_zero _)
    | succ N ih =>
      intro x2 x3 x4 H locs ls hI hmu hP hD hS hl
      have h := hv11 x2 x3 x4 hI
      unfold vs_X0_hasTooLargeField_11 at h
      refine lv_iload hx hb dX0_hasTooLargeField_11 (lv_at hl 4 rfl) ?_
      refine lv_bipush (v := 12) hx hb dX0_hasTooLargeField_13 (by decide) ?_
      refine lv_icmp_ge (tgt := 59) hx hb dX0_hasTooLargeField_15 (by decide) (fun c_1 => ?_) (fun c_1 => ?_)
      · have h := h.1 c_1
        refine lv_iconst (v := 0) hx hb dX0_hasTooLargeField_59 (by decide) ?_
        exact hret 0 () _ _ _ _ _ _ (by decide) h (hP.sub [0, 1] rfl) (hD.sub [0, 1] (by decide) rfl) hS (Nat.le_of_ble_eq_true rfl) (Nat.le_of_ble_eq_true rfl) dX0_hasTooLargeField_60
      · have h := h.2 c_1
        refine lv_iload_n hx hb dX0_hasTooLargeField_18 rfl (lv_at hl 3 rfl) ?_
        refine lv_if_eq (tgt := 59) hx hb dX0_hasTooLargeField_19 (by decide) (fun c_2 => ?_) (fun c_2 => ?_)
        · have h := h.1 c_2
          refine lv_iconst (v := 0) hx hb dX0_hasTooLargeField_59 (by decide) ?_
          exact hret 0 () _ _ _ _ _ _ (by decide) h (hP.sub [0, 1] rfl) (hD.sub [0, 1] (by decide) rfl) hS (Nat.le_of_ble_eq_true rfl) (Nat.le_of_ble_eq_true rfl) dX0_hasTooLargeField_60
        · have h := h.2 c_2
          refine lv_aload_n hx hb dX0_hasTooLargeField_22 rfl (lv_at hl 0 rfl) ?_
          refine lv_iload_n hx hb dX0_hasTooLargeField_23 rfl (lv_at hl 3 rfl) ?_
          have hPc := hP.sub (ws' := []) [] rfl
          have hDc := hD.sub (ws' := []) [] (by decide) rfl
          refine ff_callI (va_runS (As := [.int x3]) (rest := [.ref zh]) ⟨hx, hb, hml, hown, hts⟩ (c_X0_lowest l D cI H.size x3) (va_cwS 1 hts gX0_hasTooLargeField_X0_lowest rfl rfl rfl (by decide +kernel) ⟨Nat.le_of_ble_eq_true rfl, Nat.le_of_ble_eq_true rfl⟩) (ff_preS hPc hK hDc hN) rfl rfl hl.1 rfl (lv_room (Nat.le_of_ble_eq_true rfl)) dX0_hasTooLargeField_24 ⟨Nat.le_of_ble_eq_true rfl, Nat.le_of_ble_eq_true rfl⟩) hP hD hS hA [] [0, 1] (wr := [(zh, .inr (0, [.ref za, .int cc, .int ac, .int fc, .int lc])), (za, .inl (cI, 10, .inl f))]) rfl rfl (by decide) (by decide) (fun r u H locs hw hP hD hS => ?_)
          replace hw := hw.symm
          subst hw
          have hP : va_P D vwCl [(zh, .inr (0, [.ref za, .int cc, .int ac, .int fc, .int lc])), (za, .inl (cI, 10, .inl f))] H := hP
          have hD : va_D A [(zh, .inr (0, [.ref za, .int cc, .int ac, .int fc, .int lc])), (za, .inl (cI, 10, .inl f))] := hD
          refine lv_iload_n hx hb dX0_hasTooLargeField_27 rfl (lv_at hl 2 rfl) ?_
          refine lv_bipush (v := 12) hx hb dX0_hasTooLargeField_28 (by decide) ?_
          have hPc := hP.sub (ws' := [(zh, .inr (0, [.ref za, .int cc, .int ac, .int fc, .int lc])), (za, .inl (cI, 10, .inl f))]) [0, 1] rfl
          have hDc := hD.sub (ws' := [(zh, .inr (0, [.ref za, .int cc, .int ac, .int fc, .int lc])), (za, .inl (cI, 10, .inl f))]) [0, 1] (by decide) rfl
          refine ff_callI (va_runV (As := [.int (zlow x3), .int x2, .int 12]) (rest := []) ⟨hx, hb, hml, hown, hts⟩ (c_X0_spread l D cI zh za H.size cc ac fc lc f (zlow x3) x2 12) (cwV 3 hts gX0_hasTooLargeField_X0_spread rfl rfl rfl (by decide +kernel) ⟨Nat.le_of_ble_eq_true rfl, Nat.le_of_ble_eq_true rfl⟩) (ff_preV (q := (RX0, TX0, 5)) (ci := 0) (q0 := 0) hPc hK hDc hN rfl rfl) rfl rfl hl.1 rfl (lv_room (Nat.le_of_ble_eq_true rfl)) dX0_hasTooLargeField_30 ⟨Nat.le_of_ble_eq_true rfl, Nat.le_of_ble_eq_true rfl⟩) hP hD hS hA [0, 1] [] (wr := []) rfl rfl (by decide) (by decide) (fun r u H locs hw hP hD hS => ?_)
          replace hw := hw.symm
          subst hw
          have hP : va_P D vwCl [(zh, .inr (0, [.ref za, .int cc, .int ac, .int fc, .int lc])), (za, .inl (cI, 10, .inl f))] H := hP
          have hD : va_D A [(zh, .inr (0, [.ref za, .int cc, .int ac, .int fc, .int lc])), (za, .inl (cI, 10, .inl f))] := hD
          refine lv_topi (fun y_3 ey_3 => ?_)
          have h := h y_3 ey_3
          refine lv_istore (lv' := [(5, .int y_3), (0, .ref zh), (1, .int p1), (2, .int x2), (3, .int x3), (4, .int x4)]) hx hb dX0_hasTooLargeField_33 hl (by decide) rfl (fun ls hl => ?_)
          refine lv_iload hx hb dX0_hasTooLargeField_35 (lv_at hl 0 rfl) ?_
          have hPc := hP.sub (ws' := []) [] rfl
          have hDc := hD.sub (ws' := []) [] (by decide) rfl
          refine ff_callI (va_runS (As := [.int y_3]) (rest := []) ⟨hx, hb, hml, hown, hts⟩ (c_J6_bitCount_0f7a4 l D cI H.size y_3) (va_cwS 1 hts gX0_hasTooLargeField_J6_bitCount_0f7a4 rfl rfl rfl (by decide +kernel) ⟨Nat.le_of_ble_eq_true rfl, Nat.le_of_ble_eq_true rfl⟩) (ff_preS hPc hK hDc hN) rfl rfl hl.1 rfl (lv_room (Nat.le_of_ble_eq_true rfl)) dX0_hasTooLargeField_37 ⟨Nat.le_of_ble_eq_true rfl, Nat.le_of_ble_eq_true rfl⟩) hP hD hS hA [] [0, 1] (wr := [(zh, .inr (0, [.ref za, .int cc, .int ac, .int fc, .int lc])), (za, .inl (cI, 10, .inl f))]) rfl rfl (by decide) (by decide) (fun r u H locs hw hP hD hS => ?_)
          replace hw := hw.symm
          subst hw
          have hP : va_P D vwCl [(zh, .inr (0, [.ref za, .int cc, .int ac, .int fc, .int lc])), (za, .inl (cI, 10, .inl f))] H := hP
          have hD : va_D A [(zh, .inr (0, [.ref za, .int cc, .int ac, .int fc, .int lc])), (za, .inl (cI, 10, .inl f))] := hD
          refine lv_iload_n hx hb dX0_hasTooLargeField_40 rfl (lv_at hl 2 rfl) ?_
          refine lv_icmp_le (tgt := 46) hx hb dX0_hasTooLargeField_41 (by decide) (fun c_4 => ?_) (fun c_4 => ?_)
          · have h := h.1 c_4
            refine lv_iload_n hx hb dX0_hasTooLargeField_46 rfl (lv_at hl 4 rfl) ?_
            refine lv_iload hx hb dX0_hasTooLargeField_47 (lv_at hl 0 rfl) ?_
            refine lv_iconst (v := (-1)) hx hb dX0_hasTooLargeField_49 (by decide) ?_
            refine lv_ixor hx hb dX0_hasTooLargeField_50 ?_
            refine lv_iand hx hb dX0_hasTooLargeField_51 ?_
            refine lv_topi (fun y_5 ey_5 => ?_)
            have h := h y_5 ey_5
            refine lv_istore_n (lv' := [(3, .int y_5), (5, .int y_3), (0, .ref zh), (1, .int p1), (2, .int x2), (4, .int x4)]) hx hb dX0_hasTooLargeField_52 rfl hl (by decide) rfl (fun ls hl => ?_)
            obtain ⟨y_6, ey_6⟩ : ∃ y : Int32, y = x4 + 1 := ⟨_, rfl⟩
            have h := h y_6 ey_6
            refine lv_iinc (v := y_6) (lv' := [(4, .int y_6), (3, .int y_5), (5, .int y_3), (0, .ref zh), (1, .int p1), (2, .int x2)]) hx hb dX0_hasTooLargeField_53 hl (k := 5) rfl (by rw [ey_6]; rfl) (by decide) rfl (fun ls hl => ?_)
            refine lv_goto (tgt := 11) hx hb dX0_hasTooLargeField_56 (by decide) ?_
            exact ih _ _ _ _ _ _ h.1 (Nat.lt_of_lt_of_le h.2 (Nat.le_of_lt_succ hmu)) (hP.sub [0, 1] rfl) (hD.sub [0, 1] (by decide) rfl) hS (lv_sub hl [3, 4, 5, 1, 0] rfl)
          · have h := h.2 c_4
            refine lv_iconst (v := 1) hx hb dX0_hasTooLargeField_44 (by decide) ?_
            exact hret 1 () _ _ _ _ _ _ (by decide) h (hP.sub [0, 1] rfl) (hD.sub [0, 1] (by decide) rfl) hS (Nat.le_of_ble_eq_true rfl) (Nat.le_of_ble_eq_true rfl) dX0_hasTooLargeField_45
  have h := he
  unfold ve_X0_hasTooLargeField at h
  have hl : lv_has ls 6 [(0, .ref zh), (1, .int p1)] := hl
  refine lv_aload_n hx hb dX0_hasTooLargeField_0 rfl (lv_at hl 0 rfl) ?_
  refine lv_iload_n hx hb dX0_hasTooLargeField_1 rfl (lv_at hl 1 rfl) ?_
  have hPc := hP.sub (ws' := [(zh, .inr (0, [.ref za, .int cc, .int ac, .int fc, .int lc])), (za, .inl (cI, 10, .inl f))]) [0, 1] rfl
  have hDc := hD.sub (ws' := [(zh, .inr (0, [.ref za, .int cc, .int ac, .int fc, .int lc])), (za, .inl (cI, 10, .inl f))]) [0, 1] (by decide) rfl
  refine ff_callI (va_runV (As := [.int p1]) (rest := []) ⟨hx, hb, hml, hown, hts⟩ (c_X0_cellsWith l D cI zh za H.size cc ac fc lc f p1) (cwV 1 hts gX0_hasTooLargeField_X0_cellsWith rfl rfl rfl (by decide +kernel) ⟨Nat.le_of_ble_eq_true rfl, Nat.le_of_ble_eq_true rfl⟩) (ff_preV (q := (RX0, TX0, 5)) (ci := 0) (q0 := 0) hPc hK hDc hN rfl rfl) rfl rfl hl.1 rfl (lv_room (Nat.le_of_ble_eq_true rfl)) dX0_hasTooLargeField_2 ⟨Nat.le_of_ble_eq_true rfl, Nat.le_of_ble_eq_true rfl⟩) hP hD hS hA [0, 1] [] (wr := []) rfl rfl (by decide) (by decide) (fun r u H locs hw hP hD hS => ?_)
  replace hw := hw.symm
  subst hw
  have hP : va_P D vwCl [(zh, .inr (0, [.ref za, .int cc, .int ac, .int fc, .int lc])), (za, .inl (cI, 10, .inl f))] H := hP
  have hD : va_D A [(zh, .inr (0, [.ref za, .int cc, .int ac, .int fc, .int lc])), (za, .inl (cI, 10, .inl f))] := hD
  refine lv_topi (fun y_7 ey_7 => ?_)
  have h := h y_7 ey_7
  refine lv_istore_n (lv' := [(2, .int y_7), (0, .ref zh), (1, .int p1)]) hx hb dX0_hasTooLargeField_5 rfl hl (by decide) rfl (fun ls hl => ?_)
  refine lv_iload_n hx hb dX0_hasTooLargeField_6 rfl (lv_at hl 0 rfl) ?_
  refine lv_istore_n (lv' := [(3, .int y_7), (2, .int y_7), (0, .ref zh), (1, .int p1)]) hx hb dX0_hasTooLargeField_7 rfl hl (by decide) rfl (fun ls hl => ?_)
  refine lv_iconst (v := 0) hx hb dX0_hasTooLargeField_8 (by decide) ?_
  refine lv_istore (lv' := [(4, .int 0), (3, .int y_7), (2, .int y_7), (0, .ref zh), (1, .int p1)]) hx hb dX0_hasTooLargeField_9 hl (by decide) rfl (fun ls hl => ?_)
  exact L11 _ _ _ _ _ _ _ h (Nat.lt_succ_self _) (hP.sub [0, 1] rfl) (hD.sub [0, 1] (by decide) rfl) hS (lv_sub hl [3, 4, 2, 1, 0] rfl)
theorem c_X0_hasTooLargeField (l : Launch) (D : va_G) (cI : ClassId) (zh za : Nat) (sz : Nat) (cc : Int32) (ac : Int32) (fc : Int32) (lc : Int32) (f : Nat → Int32) (p1 : Int32) : Met l yX0_hasTooLargeField wsX0_hasTooLargeField ({ frames := 2, cells := 0, slots := 0, locals := 51 } : Room) (ff_Pc D [(cI, .int)] [.ref zh, .int p1] ([(zh, .inr (0, [.ref za, .int cc, .int ac, .int fc, .int lc])), (za, .inl (cI, 10, .inl f))] : va_W) sz) (va_Qi (fun (r : Int32) (u : Unit) => r = b2i (zTL cc ac fc lc f p1)) (fun (u : Unit) t => ff_B D [(cI, .int)] (va_A ([(zh, .inr (0, [.ref za, .int cc, .int ac, .int fc, .int lc])), (za, .inl (cI, 10, .inl f))] : va_W) sz) [(zh, .inr (0, [.ref za, .int cc, .int ac, .int fc, .int lc])), (za, .inl (cI, 10, .inl f))] t) (va_A ([(zh, .inr (0, [.ref za, .int cc, .int ac, .int fc, .int lc])), (za, .inl (cI, 10, .inl f))] : va_W) sz)) 0 0 (va_A ([(zh, .inr (0, [.ref za, .int cc, .int ac, .int fc, .int lc])), (za, .inl (cI, 10, .inl f))] : va_W) sz) :=
  a_X0_hasTooLargeField l D cI zh za sz cc ac fc lc f p1 _ (I_X0_hasTooLargeField_11 cc ac fc lc f p1) (mu_X0_hasTooLargeField_11 cc ac fc lc f p1) (pl_X0_hasTooLargeField_11 cc ac fc lc f p1) (pe_X0_hasTooLargeField cc ac fc lc f p1)
set_option maxHeartbeats 4000000 in
set_option maxRecDepth 100000 in
theorem a_X0_hasTooLittleRoom (l : Launch) (D : va_G) (cI : ClassId) (zh za : Nat) (sz : Nat) (cc : Int32) (ac : Int32) (fc : Int32) (lc : Int32) (f : Nat → Int32) (p1 : Int32) (P : Int32 → Unit → Prop) (I20 : Int32 → Int32 → Int32 → Prop) (mu20 : Int32 → Int32 → Int32 → Nat) (hv20 : ∀ (x2 : Int32) (x3 : Int32) (x4 : Int32), I20 x2 x3 x4 → vs_X0_hasTooLittleRoom_20 cc ac fc lc f p1 P (fun (x29 : Int32) (x39 : Int32) (x49 : Int32) => I20 x29 x39 x49 ∧ mu20 x29 x39 x49 < mu20 x2 x3 x4) x2 x3 x4) (he : ve_X0_hasTooLittleRoom cc ac fc lc f p1 P I20) : Met l yX0_hasTooLittleRoom wsX0_hasTooLittleRoom ({ frames := 2, cells := 0, slots := 0, locals := 51 } : Room) (ff_Pc D [(cI, .int)] [.ref zh, .int p1] ([(zh, .inr (0, [.ref za, .int cc, .int ac, .int fc, .int lc])), (za, .inl (cI, 10, .inl f))] : va_W) sz) (va_Qi P (fun (u : Unit) t => ff_B D [(cI, .int)] (va_A ([(zh, .inr (0, [.ref za, .int cc, .int ac, .int fc, .int lc])), (za, .inl (cI, 10, .inl f))] : va_W) sz) [(zh, .inr (0, [.ref za, .int cc, .int ac, .int fc, .int lc])), (za, .inl (cI, 10, .inl f))] t) (va_A ([(zh, .inr (0, [.ref za, .int cc, .int ac, .int fc, .int lc])), (za, .inl (cI, 10, .inl f))] : va_W) sz)) 0 0 (va_A ([(zh, .inr (0, [.ref za, .int cc, .int ac, .int fc, .int lc])), (za, .inl (cI, 10, .inl f))] : va_W) sz) := by
  refine ff_metZ (Wf := (fun (u : Unit) => ([(zh, .inr (0, [.ref za, .int cc, .int ac, .int fc, .int lc])), (za, .inl (cI, 10, .inl f))] : va_W))) (by decide +kernel) rfl (Nat.le_of_ble_eq_true rfl) ?_
  intro p e s m args below meth c A Q ls H hx hb hml hown hts hN hA hK hP hD hS hret hl
  have L20 : ∀ (N : Nat) (x2 : Int32) (x3 : Int32) (x4 : Int32) (H : Heap) (locs : List Loc) (ls : Array Slot), I20 x2 x3 x4 → mu20 x2 x3 x4 < N → va_P D vwCl [(zh, .inr (0, [.ref za, .int cc, .int ac, .int fc, .int lc])), (za, .inl (cI, 10, .inl f))] H → va_D A [(zh, .inr (0, [.ref za, .int cc, .int ac, .int fc, .int lc])), (za, .inl (cI, 10, .inl f))] → va_S A s.heap H locs → lv_has ls 6 [(0, .ref zh), (1, .int p1), (2, .int x2), (3, .int x3), (4, .int x4)] → W p l e ({ frames := 2, cells := 0, slots := 0, locals := 51 } : Room) s m args below meth c H locs 0 0 Q (F0 m 20 ls []) := by
    intro N
    induction N with
    | zero => intros; rename_i hz _ _ _ _; exact absurd hz (Nat.not_lt_zero _)
    | succ N ih =>
      intro x2 x3 x4 H locs ls hI hmu hP hD hS hl
      have h := hv20 x2 x3 x4 hI
      unfold vs_X0_hasTooLittleRoom_20 at h
      refine lv_iload hx hb dX0_hasTooLittleRoom_20 (lv_at hl 4 rfl) ?_
      refine lv_bipush (v := 12) hx hb dX0_hasTooLittleRoom_22 (by decide) ?_
      refine lv_icmp_ge (tgt := 68) hx hb dX0_hasTooLittleRoom_24 (by decide) (fun c_1 => ?_) (fun c_1 => ?_)
      · have h := h.1 c_1
        refine lv_iconst (v := 0) hx hb dX0_hasTooLittleRoom_68 (by decide) ?_
        exact hret 0 () _ _ _ _ _ _ (by decide) h (hP.sub [0, 1] rfl) (hD.sub [0, 1] (by decide) rfl) hS (Nat.le_of_ble_eq_true rfl) (Nat.le_of_ble_eq_true rfl) dX0_hasTooLittleRoom_69
      · have h := h.2 c_1
        refine lv_iload_n hx hb dX0_hasTooLittleRoom_27 rfl (lv_at hl 3 rfl) ?_
        refine lv_if_eq (tgt := 68) hx hb dX0_hasTooLittleRoom_28 (by decide) (fun c_2 => ?_) (fun c_2 => ?_)
        · have h := h.1 c_2
          refine lv_iconst (v := 0) hx hb dX0_hasTooLittleRoom_68 (by decide) ?_
          exact hret 0 () _ _ _ _ _ _ (by decide) h (hP.sub [0, 1] rfl) (hD.sub [0, 1] (by decide) rfl) hS (Nat.le_of_ble_eq_true rfl) (Nat.le_of_ble_eq_true rfl) dX0_hasTooLittleRoom_69
        · have h := h.2 c_2
          refine lv_aload_n hx hb dX0_hasTooLittleRoom_31 rfl (lv_at hl 0 rfl) ?_
          refine lv_iload_n hx hb dX0_hasTooLittleRoom_32 rfl (lv_at hl 3 rfl) ?_
          have hPc := hP.sub (ws' := []) [] rfl
          have hDc := hD.sub (ws' := []) [] (by decide) rfl
          refine ff_callI (va_runS (As := [.int x3]) (rest := [.ref zh]) ⟨hx, hb, hml, hown, hts⟩ (c_X0_lowest l D cI H.size x3) (va_cwS 1 hts gX0_hasTooLittleRoom_X0_lowest rfl rfl rfl (by decide +kernel) ⟨Nat.le_of_ble_eq_true rfl, Nat.le_of_ble_eq_true rfl⟩) (ff_preS hPc hK hDc hN) rfl rfl hl.1 rfl (lv_room (Nat.le_of_ble_eq_true rfl)) dX0_hasTooLittleRoom_33 ⟨Nat.le_of_ble_eq_true rfl, Nat.le_of_ble_eq_true rfl⟩) hP hD hS hA [] [0, 1] (wr := [(zh, .inr (0, [.ref za, .int cc, .int ac, .int fc, .int lc])), (za, .inl (cI, 10, .inl f))]) rfl rfl (by decide) (by decide) (fun r u H locs hw hP hD hS => ?_)
          replace hw := hw.symm
          subst hw
          have hP : va_P D vwCl [(zh, .inr (0, [.ref za, .int cc, .int ac, .int fc, .int lc])), (za, .inl (cI, 10, .inl f))] H := hP
          have hD : va_D A [(zh, .inr (0, [.ref za, .int cc, .int ac, .int fc, .int lc])), (za, .inl (cI, 10, .inl f))] := hD
          refine lv_iload_n hx hb dX0_hasTooLittleRoom_36 rfl (lv_at hl 2 rfl) ?_
          refine lv_bipush (v := 12) hx hb dX0_hasTooLittleRoom_37 (by decide) ?_
          have hPc := hP.sub (ws' := [(zh, .inr (0, [.ref za, .int cc, .int ac, .int fc, .int lc])), (za, .inl (cI, 10, .inl f))]) [0, 1] rfl
          have hDc := hD.sub (ws' := [(zh, .inr (0, [.ref za, .int cc, .int ac, .int fc, .int lc])), (za, .inl (cI, 10, .inl f))]) [0, 1] (by decide) rfl
          refine ff_callI (va_runV (As := [.int (zlow x3), .int x2, .int 12]) (rest := []) ⟨hx, hb, hml, hown, hts⟩ (c_X0_spread l D cI zh za H.size cc ac fc lc f (zlow x3) x2 12) (cwV 3 hts gX0_hasTooLittleRoom_X0_spread rfl rfl rfl (by decide +kernel) ⟨Nat.le_of_ble_eq_true rfl, Nat.le_of_ble_eq_true rfl⟩) (ff_preV (q := (RX0, TX0, 5)) (ci := 0) (q0 := 0) hPc hK hDc hN rfl rfl) rfl rfl hl.1 rfl (lv_room (Nat.le_of_ble_eq_true rfl)) dX0_hasTooLittleRoom_39 ⟨Nat.le_of_ble_eq_true rfl, Nat.le_of_ble_eq_true rfl⟩) hP hD hS hA [0, 1] [] (wr := []) rfl rfl (by decide) (by decide) (fun r u H locs hw hP hD hS => ?_)
          replace hw := hw.symm
          subst hw
          have hP : va_P D vwCl [(zh, .inr (0, [.ref za, .int cc, .int ac, .int fc, .int lc])), (za, .inl (cI, 10, .inl f))] H := hP
          have hD : va_D A [(zh, .inr (0, [.ref za, .int cc, .int ac, .int fc, .int lc])), (za, .inl (cI, 10, .inl f))] := hD
          refine lv_topi (fun y_3 ey_3 => ?_)
          have h := h y_3 ey_3
          refine lv_istore (lv' := [(5, .int y_3), (0, .ref zh), (1, .int p1), (2, .int x2), (3, .int x3), (4, .int x4)]) hx hb dX0_hasTooLittleRoom_42 hl (by decide) rfl (fun ls hl => ?_)
          refine lv_iload hx hb dX0_hasTooLittleRoom_44 (lv_at hl 0 rfl) ?_
          have hPc := hP.sub (ws' := []) [] rfl
          have hDc := hD.sub (ws' := []) [] (by decide) rfl
          refine ff_callI (va_runS (As := [.int y_3]) (rest := []) ⟨hx, hb, hml, hown, hts⟩ (c_J6_bitCount_0f7a4 l D cI H.size y_3) (va_cwS 1 hts gX0_hasTooLittleRoom_J6_bitCount_0f7a4 rfl rfl rfl (by decide +kernel) ⟨Nat.le_of_ble_eq_true rfl, Nat.le_of_ble_eq_true rfl⟩) (ff_preS hPc hK hDc hN) rfl rfl hl.1 rfl (lv_room (Nat.le_of_ble_eq_true rfl)) dX0_hasTooLittleRoom_46 ⟨Nat.le_of_ble_eq_true rfl, Nat.le_of_ble_eq_true rfl⟩) hP hD hS hA [] [0, 1] (wr := [(zh, .inr (0, [.ref za, .int cc, .int ac, .int fc, .int lc])), (za, .inl (cI, 10, .inl f))]) rfl rfl (by decide) (by decide) (fun r u H locs hw hP hD hS => ?_)
          replace hw := hw.symm
          subst hw
          have hP : va_P D vwCl [(zh, .inr (0, [.ref za, .int cc, .int ac, .int fc, .int lc])), (za, .inl (cI, 10, .inl f))] H := hP
          have hD : va_D A [(zh, .inr (0, [.ref za, .int cc, .int ac, .int fc, .int lc])), (za, .inl (cI, 10, .inl f))] := hD
          refine lv_iload_n hx hb dX0_hasTooLittleRoom_49 rfl (lv_at hl 2 rfl) ?_
          refine lv_icmp_ge (tgt := 55) hx hb dX0_hasTooLittleRoom_50 (by decide) (fun c_4 => ?_) (fun c_4 => ?_)
          · have h := h.1 c_4
            refine lv_iload_n hx hb dX0_hasTooLittleRoom_55 rfl (lv_at hl 4 rfl) ?_
            refine lv_iload hx hb dX0_hasTooLittleRoom_56 (lv_at hl 0 rfl) ?_
            refine lv_iconst (v := (-1)) hx hb dX0_hasTooLittleRoom_58 (by decide) ?_
            refine lv_ixor hx hb dX0_hasTooLittleRoom_59 ?_
            refine lv_iand hx hb dX0_hasTooLittleRoom_60 ?_
            refine lv_topi (fun y_5 ey_5 => ?_)
            have h := h y_5 ey_5
            refine lv_istore_n (lv' := [(3, .int y_5), (5, .int y_3), (0, .ref zh), (1, .int p1), (2, .int x2), (4, .int x4)]) hx hb dX0_hasTooLittleRoom_61 rfl hl (by decide) rfl (fun ls hl => ?_)
            obtain ⟨y_6, ey_6⟩ : ∃ y : Int32, y = x4 + 1 := ⟨_, rfl⟩
            have h := h y_6 ey_6
            refine lv_iinc (v := y_6) (lv' := [(4, .int y_6), (3, .int y_5), (5, .int y_3), (0, .ref zh), (1, .int p1), (2, .int x2)]) hx hb dX0_hasTooLittleRoom_62 hl (k := 5) rfl (by rw [ey_6]; rfl) (by decide) rfl (fun ls hl => ?_)
            refine lv_goto (tgt := 20) hx hb dX0_hasTooLittleRoom_65 (by decide) ?_
            exact ih _ _ _ _ _ _ h.1 (Nat.lt_of_lt_of_le h.2 (Nat.le_of_lt_succ hmu)) (hP.sub [0, 1] rfl) (hD.sub [0, 1] (by decide) rfl) hS (lv_sub hl [3, 4, 5, 1, 0] rfl)
          · have h := h.2 c_4
            refine lv_iconst (v := 1) hx hb dX0_hasTooLittleRoom_53 (by decide) ?_
            exact hret 1 () _ _ _ _ _ _ (by decide) h (hP.sub [0, 1] rfl) (hD.sub [0, 1] (by decide) rfl) hS (Nat.le_of_ble_eq_true rfl) (Nat.le_of_ble_eq_true rfl) dX0_hasTooLittleRoom_54
  have h := he
  unfold ve_X0_hasTooLittleRoom at h
  have hl : lv_has ls 6 [(0, .ref zh), (1, .int p1)] := hl
  refine lv_aload_n hx hb dX0_hasTooLittleRoom_0 rfl (lv_at hl 0 rfl) ?_
  refine lv_iload_n hx hb dX0_hasTooLittleRoom_1 rfl (lv_at hl 1 rfl) ?_
  have hPc := hP.sub (ws' := [(zh, .inr (0, [.ref za, .int cc, .int ac, .int fc, .int lc])), (za, .inl (cI, 10, .inl f))]) [0, 1] rfl
  have hDc := hD.sub (ws' := [(zh, .inr (0, [.ref za, .int cc, .int ac, .int fc, .int lc])), (za, .inl (cI, 10, .inl f))]) [0, 1] (by decide) rfl
  refine ff_callI (va_runV (As := [.int p1]) (rest := []) ⟨hx, hb, hml, hown, hts⟩ (c_X0_cellsWith l D cI zh za H.size cc ac fc lc f p1) (cwV 1 hts gX0_hasTooLittleRoom_X0_cellsWith rfl rfl rfl (by decide +kernel) ⟨Nat.le_of_ble_eq_true rfl, Nat.le_of_ble_eq_true rfl⟩) (ff_preV (q := (RX0, TX0, 5)) (ci := 0) (q0 := 0) hPc hK hDc hN rfl rfl) rfl rfl hl.1 rfl (lv_room (Nat.le_of_ble_eq_true rfl)) dX0_hasTooLittleRoom_2 ⟨Nat.le_of_ble_eq_true rfl, Nat.le_of_ble_eq_true rfl⟩) hP hD hS hA [0, 1] [] (wr := []) rfl rfl (by decide) (by decide) (fun r u H locs hw hP hD hS => ?_)
  replace hw := hw.symm
  subst hw
  have hP : va_P D vwCl [(zh, .inr (0, [.ref za, .int cc, .int ac, .int fc, .int lc])), (za, .inl (cI, 10, .inl f))] H := hP
  have hD : va_D A [(zh, .inr (0, [.ref za, .int cc, .int ac, .int fc, .int lc])), (za, .inl (cI, 10, .inl f))] := hD
  refine lv_aload_n hx hb dX0_hasTooLittleRoom_5 rfl (lv_at hl 0 rfl) ?_
  have hPc := hP.sub (ws' := [(zh, .inr (0, [.ref za, .int cc, .int ac, .int fc, .int lc])), (za, .inl (cI, 10, .inl f))]) [0, 1] rfl
  have hDc := hD.sub (ws' := [(zh, .inr (0, [.ref za, .int cc, .int ac, .int fc, .int lc])), (za, .inl (cI, 10, .inl f))]) [0, 1] (by decide) rfl
  refine ff_callI (va_runV (As := []) (rest := [.int (zcw f p1)]) ⟨hx, hb, hml, hown, hts⟩ (c_X0_emptyCells l D cI zh za H.size cc ac fc lc f) (cwV 0 hts gX0_hasTooLittleRoom_X0_emptyCells rfl rfl rfl (by decide +kernel) ⟨Nat.le_of_ble_eq_true rfl, Nat.le_of_ble_eq_true rfl⟩) (ff_preV (q := (RX0, TX0, 5)) (ci := 0) (q0 := 0) hPc hK hDc hN rfl rfl) rfl rfl hl.1 rfl (lv_room (Nat.le_of_ble_eq_true rfl)) dX0_hasTooLittleRoom_6 ⟨Nat.le_of_ble_eq_true rfl, Nat.le_of_ble_eq_true rfl⟩) hP hD hS hA [0, 1] [] (wr := []) rfl rfl (by decide) (by decide) (fun r u H locs hw hP hD hS => ?_)
  replace hw := hw.symm
  subst hw
  have hP : va_P D vwCl [(zh, .inr (0, [.ref za, .int cc, .int ac, .int fc, .int lc])), (za, .inl (cI, 10, .inl f))] H := hP
  have hD : va_D A [(zh, .inr (0, [.ref za, .int cc, .int ac, .int fc, .int lc])), (za, .inl (cI, 10, .inl f))] := hD
  refine lv_ior hx hb dX0_hasTooLittleRoom_9 ?_
  refine lv_topi (fun y_7 ey_7 => ?_)
  have h := h y_7 ey_7
  refine lv_istore_n (lv' := [(2, .int y_7), (0, .ref zh), (1, .int p1)]) hx hb dX0_hasTooLittleRoom_10 rfl hl (by decide) rfl (fun ls hl => ?_)
  refine lv_aload_n hx hb dX0_hasTooLittleRoom_11 rfl (lv_at hl 1 rfl) ?_
  refine lv_iload_n hx hb dX0_hasTooLittleRoom_12 rfl (lv_at hl 2 rfl) ?_
  have hPc := hP.sub (ws' := [(zh, .inr (0, [.ref za, .int cc, .int ac, .int fc, .int lc])), (za, .inl (cI, 10, .inl f))]) [0, 1] rfl
  have hDc := hD.sub (ws' := [(zh, .inr (0, [.ref za, .int cc, .int ac, .int fc, .int lc])), (za, .inl (cI, 10, .inl f))]) [0, 1] (by decide) rfl
  refine ff_callI (va_runV (As := [.int p1]) (rest := []) ⟨hx, hb, hml, hown, hts⟩ (c_X0_cellsWith l D cI zh za H.size cc ac fc lc f p1) (cwV 1 hts gX0_hasTooLittleRoom_X0_cellsWith rfl rfl rfl (by decide +kernel) ⟨Nat.le_of_ble_eq_true rfl, Nat.le_of_ble_eq_true rfl⟩) (ff_preV (q := (RX0, TX0, 5)) (ci := 0) (q0 := 0) hPc hK hDc hN rfl rfl) rfl rfl hl.1 rfl (lv_room (Nat.le_of_ble_eq_true rfl)) dX0_hasTooLittleRoom_13 ⟨Nat.le_of_ble_eq_true rfl, Nat.le_of_ble_eq_true rfl⟩) hP hD hS hA [0, 1] [] (wr := []) rfl rfl (by decide) (by decide) (fun r u H locs hw hP hD hS => ?_)
  replace hw := hw.symm
  subst hw
  have hP : va_P D vwCl [(zh, .inr (0, [.ref za, .int cc, .int ac, .int fc, .int lc])), (za, .inl (cI, 10, .inl f))] H := hP
  have hD : va_D A [(zh, .inr (0, [.ref za, .int cc, .int ac, .int fc, .int lc])), (za, .inl (cI, 10, .inl f))] := hD
  refine lv_topi (fun y_8 ey_8 => ?_)
  have h := h y_8 ey_8
  refine lv_istore_n (lv' := [(3, .int y_8), (2, .int y_7), (0, .ref zh), (1, .int p1)]) hx hb dX0_hasTooLittleRoom_16 rfl hl (by decide) rfl (fun ls hl => ?_)
  refine lv_iconst (v := 0) hx hb dX0_hasTooLittleRoom_17 (by decide) ?_
  refine lv_istore (lv' := [(4, .int 0), (3, .int y_8), (2, .int y_7), (0, .ref zh), (1, .int p1)]) hx hb dX0_hasTooLittleRoom_18 hl (by decide) rfl (fun ls hl => ?_)
  exact L20 _ _ _ _ _ _ _ h (Nat.lt_succ_self _) (hP.sub [0, 1] rfl) (hD.sub [0, 1] (by decide) rfl) hS (lv_sub hl [3, 4, 2, 1, 0] rfl)
theorem c_X0_hasTooLittleRoom (l : Launch) (D : va_G) (cI : ClassId) (zh za : Nat) (sz : Nat) (cc : Int32) (ac : Int32) (fc : Int32) (lc : Int32) (f : Nat → Int32) (p1 : Int32) : Met l yX0_hasTooLittleRoom wsX0_hasTooLittleRoom ({ frames := 2, cells := 0, slots := 0, locals := 51 } : Room) (ff_Pc D [(cI, .int)] [.ref zh, .int p1] ([(zh, .inr (0, [.ref za, .int cc, .int ac, .int fc, .int lc])), (za, .inl (cI, 10, .inl f))] : va_W) sz) (va_Qi (fun (r : Int32) (u : Unit) => r = b2i (zTR cc ac fc lc f p1)) (fun (u : Unit) t => ff_B D [(cI, .int)] (va_A ([(zh, .inr (0, [.ref za, .int cc, .int ac, .int fc, .int lc])), (za, .inl (cI, 10, .inl f))] : va_W) sz) [(zh, .inr (0, [.ref za, .int cc, .int ac, .int fc, .int lc])), (za, .inl (cI, 10, .inl f))] t) (va_A ([(zh, .inr (0, [.ref za, .int cc, .int ac, .int fc, .int lc])), (za, .inl (cI, 10, .inl f))] : va_W) sz)) 0 0 (va_A ([(zh, .inr (0, [.ref za, .int cc, .int ac, .int fc, .int lc])), (za, .inl (cI, 10, .inl f))] : va_W) sz) :=
  a_X0_hasTooLittleRoom l D cI zh za sz cc ac fc lc f p1 _ (I_X0_hasTooLittleRoom_20 cc ac fc lc f p1) (mu_X0_hasTooLittleRoom_20 cc ac fc lc f p1) (pl_X0_hasTooLittleRoom_20 cc ac fc lc f p1) (pe_X0_hasTooLittleRoom cc ac fc lc f p1)
set_option maxHeartbeats 4000000 in
set_option maxRecDepth 100000 in
theorem a_X0_isSound (l : Launch) (D : va_G) (cI : ClassId) (zh za : Nat) (sz : Nat) (cc : Int32) (ac : Int32) (fc : Int32) (lc : Int32) (f : Nat → Int32) (P : Int32 → Unit → Prop) (I2 : Int32 → Prop) (mu2 : Int32 → Nat) (hv2 : ∀ (x1 : Int32), I2 x1 → vs_X0_isSound_2 cc ac fc lc f P (fun (x19 : Int32) => I2 x19 ∧ mu2 x19 < mu2 x1) x1) (he : ve_X0_isSound cc ac fc lc f P I2) : Met l yX0_isSound wsX0_isSound ({ frames := 3, cells := 0, slots := 0, locals := 76 } : Room) (ff_Pc D [(cI, .int)] [.ref zh] ([(zh, .inr (0, [.ref za, .int cc, .int ac, .int fc, .int lc])), (za, .inl (cI, 10, .inl f))] : va_W) sz) (va_Qi P (fun (u : Unit) t => ff_B D [(cI, .int)] (va_A ([(zh, .inr (0, [.ref za, .int cc, .int ac, .int fc, .int lc])), (za, .inl (cI, 10, .inl f))] : va_W) sz) [(zh, .inr (0, [.ref za, .int cc, .int ac, .int fc, .int lc])), (za, .inl (cI, 10, .inl f))] t) (va_A ([(zh, .inr (0, [.ref za, .int cc, .int ac, .int fc, .int lc])), (za, .inl (cI, 10, .inl f))] : va_W) sz)) 0 0 (va_A ([(zh, .inr (0, [.ref za, .int cc, .int ac, .int fc, .int lc])), (za, .inl (cI, 10, .inl f))] : va_W) sz) := by
  refine ff_metZ (Wf := (fun (u : Unit) => ([(zh, .inr (0, [.ref za, .int cc, .int ac, .int fc, .int lc])), (za, .inl (cI, 10, .inl f))] : va_W))) (by decide +kernel) rfl (Nat.le_of_ble_eq_true rfl) ?_
  intro p e s m args below meth c A Q ls H hx hb hml hown hts hN hA hK hP hD hS hret hl
  have L2 : ∀ (N : Nat) (x1 : Int32) (H : Heap) (locs : List Loc) (ls : Array Slot), I2 x1 → mu2 x1 < N → va_P D vwCl [(zh, .inr (0, [.ref za, .int cc, .int ac, .int fc, .int lc])), (za, .inl (cI, 10, .inl f))] H → va_D A [(zh, .inr (0, [.ref za, .int cc, .int ac, .int fc, .int lc])), (za, .inl (cI, 10, .inl f))] → va_S A s.heap H locs → lv_has ls 2 [(0, .ref zh), (1, .int x1)] → W p l e ({ frames := 3, cells := 0, slots := 0, locals := 76 } : Room) s m args below meth c H locs 0 0 Q (F0 m 2 ls []) := by
    intro N
    induction N with
    | zero => intros; rename_i hz _ _ _ _; exact absurd hz (Nat.not_lt_zero _)
    | succ N ih =>
      intro x1 H locs ls hI hmu hP hD hS hl
      have h := hv2 x1 hI
      unfold vs_X0_isSound_2 at h
      refine lv_iload_n hx hb dX0_isSound_2 rfl (lv_at hl 1 rfl) ?_
      refine lv_bipush (v := 9) hx hb dX0_isSound_3 (by decide) ?_
      refine lv_icmp_gt (tgt := 32) hx hb dX0_isSound_5 (by decide) (fun c_1 => ?_) (fun c_1 => ?_)
      · have h := h.1 c_1
        refine lv_iconst (v := 1) hx hb dX0_isSound_32 (by decide) ?_
        exact hret 1 () _ _ _ _ _ _ (by decide) h (hP.sub [0, 1] rfl) (hD.sub [0, 1] (by decide) rfl) hS (Nat.le_of_ble_eq_true rfl) (Nat.le_of_ble_eq_true rfl) dX0_isSound_33
      · have h := h.2 c_1
        refine lv_aload_n hx hb dX0_isSound_8 rfl (lv_at hl 0 rfl) ?_
        refine lv_iload_n hx hb dX0_isSound_9 rfl (lv_at hl 1 rfl) ?_
        have hPc := hP.sub (ws' := [(zh, .inr (0, [.ref za, .int cc, .int ac, .int fc, .int lc])), (za, .inl (cI, 10, .inl f))]) [0, 1] rfl
        have hDc := hD.sub (ws' := [(zh, .inr (0, [.ref za, .int cc, .int ac, .int fc, .int lc])), (za, .inl (cI, 10, .inl f))]) [0, 1] (by decide) rfl
        refine ff_callI (va_runV (As := [.int x1]) (rest := []) ⟨hx, hb, hml, hown, hts⟩ (c_X0_hasTooLargeField l D cI zh za H.size cc ac fc lc f x1) (cwV 1 hts gX0_isSound_X0_hasTooLargeField rfl rfl rfl (by decide +kernel) ⟨Nat.le_of_ble_eq_true rfl, Nat.le_of_ble_eq_true rfl⟩) (ff_preV (q := (RX0, TX0, 5)) (ci := 0) (q0 := 0) hPc hK hDc hN rfl rfl) rfl rfl hl.1 rfl (lv_room (Nat.le_of_ble_eq_true rfl)) dX0_isSound_10 ⟨Nat.le_of_ble_eq_true rfl, Nat.le_of_ble_eq_true rfl⟩) hP hD hS hA [0, 1] [] (wr := []) rfl rfl (by decide) (by decide) (fun r u H locs hw hP hD hS => ?_)
        replace hw := hw.symm
        subst hw
        have hP : va_P D vwCl [(zh, .inr (0, [.ref za, .int cc, .int ac, .int fc, .int lc])), (za, .inl (cI, 10, .inl f))] H := hP
        have hD : va_D A [(zh, .inr (0, [.ref za, .int cc, .int ac, .int fc, .int lc])), (za, .inl (cI, 10, .inl f))] := hD
        refine lv_if_ne (tgt := 24) hx hb dX0_isSound_13 (by decide) (fun c_2 => ?_) (fun c_2 => ?_)
        · have h := h.2 c_2
          refine lv_iconst (v := 0) hx hb dX0_isSound_24 (by decide) ?_
          exact hret 0 () _ _ _ _ _ _ (by decide) h (hP.sub [0, 1] rfl) (hD.sub [0, 1] (by decide) rfl) hS (Nat.le_of_ble_eq_true rfl) (Nat.le_of_ble_eq_true rfl) dX0_isSound_25
        · have h := h.1 c_2
          refine lv_aload_n hx hb dX0_isSound_16 rfl (lv_at hl 0 rfl) ?_
          refine lv_iload_n hx hb dX0_isSound_17 rfl (lv_at hl 1 rfl) ?_
          have hPc := hP.sub (ws' := [(zh, .inr (0, [.ref za, .int cc, .int ac, .int fc, .int lc])), (za, .inl (cI, 10, .inl f))]) [0, 1] rfl
          have hDc := hD.sub (ws' := [(zh, .inr (0, [.ref za, .int cc, .int ac, .int fc, .int lc])), (za, .inl (cI, 10, .inl f))]) [0, 1] (by decide) rfl
          refine ff_callI (va_runV (As := [.int x1]) (rest := []) ⟨hx, hb, hml, hown, hts⟩ (c_X0_hasTooLittleRoom l D cI zh za H.size cc ac fc lc f x1) (cwV 1 hts gX0_isSound_X0_hasTooLittleRoom rfl rfl rfl (by decide +kernel) ⟨Nat.le_of_ble_eq_true rfl, Nat.le_of_ble_eq_true rfl⟩) (ff_preV (q := (RX0, TX0, 5)) (ci := 0) (q0 := 0) hPc hK hDc hN rfl rfl) rfl rfl hl.1 rfl (lv_room (Nat.le_of_ble_eq_true rfl)) dX0_isSound_18 ⟨Nat.le_of_ble_eq_true rfl, Nat.le_of_ble_eq_true rfl⟩) hP hD hS hA [0, 1] [] (wr := []) rfl rfl (by decide) (by decide) (fun r u H locs hw hP hD hS => ?_)
          replace hw := hw.symm
          subst hw
          have hP : va_P D vwCl [(zh, .inr (0, [.ref za, .int cc, .int ac, .int fc, .int lc])), (za, .inl (cI, 10, .inl f))] H := hP
          have hD : va_D A [(zh, .inr (0, [.ref za, .int cc, .int ac, .int fc, .int lc])), (za, .inl (cI, 10, .inl f))] := hD
          refine lv_if_eq (tgt := 26) hx hb dX0_isSound_21 (by decide) (fun c_3 => ?_) (fun c_3 => ?_)
          · have h := h.1 c_3
            obtain ⟨y_4, ey_4⟩ : ∃ y : Int32, y = x1 + 1 := ⟨_, rfl⟩
            have h := h y_4 ey_4
            refine lv_iinc (v := y_4) (lv' := [(1, .int y_4), (0, .ref zh)]) hx hb dX0_isSound_26 hl (k := 1) rfl (by rw [ey_4]; rfl) (by decide) rfl (fun ls hl => ?_)
            refine lv_goto (tgt := 2) hx hb dX0_isSound_29 (by decide) ?_
            exact ih _ _ _ _ h.1 (Nat.lt_of_lt_of_le h.2 (Nat.le_of_lt_succ hmu)) (hP.sub [0, 1] rfl) (hD.sub [0, 1] (by decide) rfl) hS (lv_sub hl [1, 0] rfl)
          · have h := h.2 c_3
            refine lv_iconst (v := 0) hx hb dX0_isSound_24 (by decide) ?_
            exact hret 0 () _ _ _ _ _ _ (by decide) h (hP.sub [0, 1] rfl) (hD.sub [0, 1] (by decide) rfl) hS (Nat.le_of_ble_eq_true rfl) (Nat.le_of_ble_eq_true rfl) dX0_isSound_25
  have h := he
  unfold ve_X0_isSound at h
  have hl : lv_has ls 2 [(0, .ref zh)] := hl
  refine lv_iconst (v := 1) hx hb dX0_isSound_0 (by decide) ?_
  refine lv_istore_n (lv' := [(1, .int 1), (0, .ref zh)]) hx hb dX0_isSound_1 rfl hl (by decide) rfl (fun ls hl => ?_)
  exact L2 _ _ _ _ _ h (Nat.lt_succ_self _) (hP.sub [0, 1] rfl) (hD.sub [0, 1] (by decide) rfl) hS (lv_sub hl [1, 0] rfl)
theorem c_X0_isSound (l : Launch) (D : va_G) (cI : ClassId) (zh za : Nat) (sz : Nat) (cc : Int32) (ac : Int32) (fc : Int32) (lc : Int32) (f : Nat → Int32) : Met l yX0_isSound wsX0_isSound ({ frames := 3, cells := 0, slots := 0, locals := 76 } : Room) (ff_Pc D [(cI, .int)] [.ref zh] ([(zh, .inr (0, [.ref za, .int cc, .int ac, .int fc, .int lc])), (za, .inl (cI, 10, .inl f))] : va_W) sz) (va_Qi (fun (r : Int32) (u : Unit) => r = b2i (zso cc ac fc lc f 9)) (fun (u : Unit) t => ff_B D [(cI, .int)] (va_A ([(zh, .inr (0, [.ref za, .int cc, .int ac, .int fc, .int lc])), (za, .inl (cI, 10, .inl f))] : va_W) sz) [(zh, .inr (0, [.ref za, .int cc, .int ac, .int fc, .int lc])), (za, .inl (cI, 10, .inl f))] t) (va_A ([(zh, .inr (0, [.ref za, .int cc, .int ac, .int fc, .int lc])), (za, .inl (cI, 10, .inl f))] : va_W) sz)) 0 0 (va_A ([(zh, .inr (0, [.ref za, .int cc, .int ac, .int fc, .int lc])), (za, .inl (cI, 10, .inl f))] : va_W) sz) :=
  a_X0_isSound l D cI zh za sz cc ac fc lc f _ (I_X0_isSound_2 cc ac fc lc f) (mu_X0_isSound_2 cc ac fc lc f) (pl_X0_isSound_2 cc ac fc lc f) (pe_X0_isSound cc ac fc lc f)
set_option maxHeartbeats 4000000 in
set_option maxRecDepth 100000 in
theorem a_X0_canTake (l : Launch) (D : va_G) (cI : ClassId) (zh za : Nat) (sz : Nat) (cc : Int32) (ac : Int32) (fc : Int32) (lc : Int32) (f : Nat → Int32) (p1 : Int32) (p2 : Int32) (P : Int32 → ((Nat → Int32)) → Prop) (I48 : Int32 → Int32 → (Nat → Int32) → Prop) (mu48 : Int32 → Int32 → (Nat → Int32) → Nat) (hv48 : ∀ (x3 : Int32) (x4 : Int32) (f' : Nat → Int32), I48 x3 x4 f' → vs_X0_canTake_48 cc ac fc lc f p1 p2 P (fun (x39 : Int32) (x49 : Int32) (f9 : Nat → Int32) => I48 x39 x49 f9 ∧ mu48 x39 x49 f9 < mu48 x3 x4 f') x3 x4 f') (he : ve_X0_canTake cc ac fc lc f p1 p2 P I48) : Met l yX0_canTake wsX0_canTake ({ frames := 4, cells := 0, slots := 0, locals := 85 } : Room) (ff_Pc D [(cI, .int)] [.ref zh, .int p1, .int p2] ([(zh, .inr (0, [.ref za, .int cc, .int ac, .int fc, .int lc])), (za, .inl (cI, 10, .inl f))] : va_W) sz) (va_Qi P (fun (u : (Nat → Int32)) t => ff_B D [(cI, .int)] (va_A ([(zh, .inr (0, [.ref za, .int cc, .int ac, .int fc, .int lc])), (za, .inl (cI, 10, .inl f))] : va_W) sz) [(zh, .inr (0, [.ref za, .int cc, .int ac, .int fc, .int lc])), (za, .inl (cI, 10, .inl u))] t) (va_A ([(zh, .inr (0, [.ref za, .int cc, .int ac, .int fc, .int lc])), (za, .inl (cI, 10, .inl f))] : va_W) sz)) 0 0 (va_A ([(zh, .inr (0, [.ref za, .int cc, .int ac, .int fc, .int lc])), (za, .inl (cI, 10, .inl f))] : va_W) sz) := by
  refine ff_metZ (Wf := (fun (u : (Nat → Int32)) => ([(zh, .inr (0, [.ref za, .int cc, .int ac, .int fc, .int lc])), (za, .inl (cI, 10, .inl u))] : va_W))) (by decide +kernel) rfl (Nat.le_of_ble_eq_true rfl) ?_
  intro p e s m args below meth c A Q ls H hx hb hml hown hts hN hA hK hP hD hS hret hl
  have L48 : ∀ (N : Nat) (x3 : Int32) (x4 : Int32) (f' : Nat → Int32) (H : Heap) (locs : List Loc) (ls : Array Slot), I48 x3 x4 f' → mu48 x3 x4 f' < N → va_P D vwCl [(zh, .inr (0, [.ref za, .int cc, .int ac, .int fc, .int lc])), (za, .inl (cI, 10, .inl f'))] H → va_D A [(zh, .inr (0, [.ref za, .int cc, .int ac, .int fc, .int lc])), (za, .inl (cI, 10, .inl f'))] → va_S A s.heap H locs → lv_has ls 5 [(0, .ref zh), (1, .int p1), (2, .int p2), (3, .int x3), (4, .int x4)] → W p l e ({ frames := 4, cells := 0, slots := 0, locals := 85 } : Room) s m args below meth c H locs 0 0 Q (F0 m 48 ls []) := by
    intro N
    induction N with
    | zero => intros; rename_i hz _ _ _ _; exact absurd hz (Nat.not_lt_zero _)
    | succ N ih =>
      intro x3 x4 f' H locs ls hI hmu hP hD hS hl
      have h := hv48 x3 x4 f' hI
      unfold vs_X0_canTake_48 at h
      refine lv_iload hx hb dX0_canTake_48 (lv_at hl 4 rfl) ?_
      refine lv_bipush (v := 9) hx hb dX0_canTake_50 (by decide) ?_
      refine lv_icmp_gt (tgt := 86) hx hb dX0_canTake_52 (by decide) (fun c_1 => ?_) (fun c_1 => ?_)
      · have h := h.1 c_1
        refine lv_aload_n hx hb dX0_canTake_86 rfl (lv_at hl 0 rfl) ?_
        refine lv_iload_n hx hb dX0_canTake_87 rfl (lv_at hl 1 rfl) ?_
        refine lv_iconst (v := 0) hx hb dX0_canTake_88 (by decide) ?_
        have hPc := hP.sub (ws' := [(zh, .inr (0, [.ref za, .int cc, .int ac, .int fc, .int lc])), (za, .inl (cI, 10, .inl f'))]) [0, 1] rfl
        have hDc := hD.sub (ws' := [(zh, .inr (0, [.ref za, .int cc, .int ac, .int fc, .int lc])), (za, .inl (cI, 10, .inl f'))]) [0, 1] (by decide) rfl
        refine ff_callV (va_runV (As := [.int p1, .int 0]) (rest := []) ⟨hx, hb, hml, hown, hts⟩ (c_X0_write l D cI zh za H.size cc ac fc lc f' p1 0) (cwV 2 hts gX0_canTake_X0_write rfl rfl rfl (by decide +kernel) ⟨Nat.le_of_ble_eq_true rfl, Nat.le_of_ble_eq_true rfl⟩) (ff_preV (q := (RX0, TX0, 5)) (ci := 0) (q0 := 0) hPc hK hDc hN rfl rfl) rfl rfl hl.1 rfl (lv_room (Nat.le_of_ble_eq_true rfl)) dX0_canTake_89 ⟨Nat.le_of_ble_eq_true rfl, Nat.le_of_ble_eq_true rfl⟩) hP hD hS hA [0, 1] [] (wr := []) rfl rfl (by decide) (by decide) (fun u H locs hw hP hD hS => ?_)
        replace hw := hw.symm
        subst hw
        have hP : va_P D vwCl [(zh, .inr (0, [.ref za, .int cc, .int ac, .int fc, .int lc])), (za, .inl (cI, 10, .inl (zwr f' p1 0)))] H := hP
        have hD : va_D A [(zh, .inr (0, [.ref za, .int cc, .int ac, .int fc, .int lc])), (za, .inl (cI, 10, .inl (zwr f' p1 0)))] := hD
        refine lv_iload_n hx hb dX0_canTake_92 rfl (lv_at hl 3 rfl) ?_
        exact hret x3 (zwr f' p1 0) _ _ _ _ _ _ h.1 h.2 (hP.sub [0, 1] rfl) (hD.sub [0, 1] (by decide) rfl) hS (Nat.le_of_ble_eq_true rfl) (Nat.le_of_ble_eq_true rfl) dX0_canTake_93
      · have h := h.2 c_1
        refine lv_iload_n hx hb dX0_canTake_55 rfl (lv_at hl 3 rfl) ?_
        refine lv_if_eq (tgt := 86) hx hb dX0_canTake_56 (by decide) (fun c_2 => ?_) (fun c_2 => ?_)
        · have h := h.1 c_2
          refine lv_aload_n hx hb dX0_canTake_86 rfl (lv_at hl 0 rfl) ?_
          refine lv_iload_n hx hb dX0_canTake_87 rfl (lv_at hl 1 rfl) ?_
          refine lv_iconst (v := 0) hx hb dX0_canTake_88 (by decide) ?_
          have hPc := hP.sub (ws' := [(zh, .inr (0, [.ref za, .int cc, .int ac, .int fc, .int lc])), (za, .inl (cI, 10, .inl f'))]) [0, 1] rfl
          have hDc := hD.sub (ws' := [(zh, .inr (0, [.ref za, .int cc, .int ac, .int fc, .int lc])), (za, .inl (cI, 10, .inl f'))]) [0, 1] (by decide) rfl
          refine ff_callV (va_runV (As := [.int p1, .int 0]) (rest := []) ⟨hx, hb, hml, hown, hts⟩ (c_X0_write l D cI zh za H.size cc ac fc lc f' p1 0) (cwV 2 hts gX0_canTake_X0_write rfl rfl rfl (by decide +kernel) ⟨Nat.le_of_ble_eq_true rfl, Nat.le_of_ble_eq_true rfl⟩) (ff_preV (q := (RX0, TX0, 5)) (ci := 0) (q0 := 0) hPc hK hDc hN rfl rfl) rfl rfl hl.1 rfl (lv_room (Nat.le_of_ble_eq_true rfl)) dX0_canTake_89 ⟨Nat.le_of_ble_eq_true rfl, Nat.le_of_ble_eq_true rfl⟩) hP hD hS hA [0, 1] [] (wr := []) rfl rfl (by decide) (by decide) (fun u H locs hw hP hD hS => ?_)
          replace hw := hw.symm
          subst hw
          have hP : va_P D vwCl [(zh, .inr (0, [.ref za, .int cc, .int ac, .int fc, .int lc])), (za, .inl (cI, 10, .inl (zwr f' p1 0)))] H := hP
          have hD : va_D A [(zh, .inr (0, [.ref za, .int cc, .int ac, .int fc, .int lc])), (za, .inl (cI, 10, .inl (zwr f' p1 0)))] := hD
          refine lv_iload_n hx hb dX0_canTake_92 rfl (lv_at hl 3 rfl) ?_
          exact hret x3 (zwr f' p1 0) _ _ _ _ _ _ h.1 h.2 (hP.sub [0, 1] rfl) (hD.sub [0, 1] (by decide) rfl) hS (Nat.le_of_ble_eq_true rfl) (Nat.le_of_ble_eq_true rfl) dX0_canTake_93
        · have h := h.2 c_2
          refine lv_iload hx hb dX0_canTake_59 (lv_at hl 4 rfl) ?_
          refine lv_iload_n hx hb dX0_canTake_61 rfl (lv_at hl 2 rfl) ?_
          refine lv_icmp_eq (tgt := 74) hx hb dX0_canTake_62 (by decide) (fun c_3 => ?_) (fun c_3 => ?_)
          · have h := h.1 c_3
            refine lv_iconst (v := 1) hx hb dX0_canTake_74 (by decide) ?_
            refine lv_goto (tgt := 79) hx hb dX0_canTake_75 (by decide) ?_
            refine lv_istore_n (lv' := [(3, .int 1), (0, .ref zh), (1, .int p1), (2, .int p2), (4, .int x4)]) hx hb dX0_canTake_79 rfl hl (by decide) rfl (fun ls hl => ?_)
            obtain ⟨y_4, ey_4⟩ : ∃ y : Int32, y = x4 + 1 := ⟨_, rfl⟩
            have h := h y_4 ey_4
            refine lv_iinc (v := y_4) (lv' := [(4, .int y_4), (3, .int 1), (0, .ref zh), (1, .int p1), (2, .int p2)]) hx hb dX0_canTake_80 hl (k := 4) rfl (by rw [ey_4]; rfl) (by decide) rfl (fun ls hl => ?_)
            refine lv_goto (tgt := 48) hx hb dX0_canTake_83 (by decide) ?_
            exact ih _ _ _ _ _ _ h.1 (Nat.lt_of_lt_of_le h.2 (Nat.le_of_lt_succ hmu)) (hP.sub [0, 1] rfl) (hD.sub [0, 1] (by decide) rfl) hS (lv_sub hl [2, 3, 4, 1, 0] rfl)
          · have h := h.2 c_3
            refine lv_aload_n hx hb dX0_canTake_65 rfl (lv_at hl 0 rfl) ?_
            refine lv_iload hx hb dX0_canTake_66 (lv_at hl 4 rfl) ?_
            have hPc := hP.sub (ws' := [(zh, .inr (0, [.ref za, .int cc, .int ac, .int fc, .int lc])), (za, .inl (cI, 10, .inl f'))]) [0, 1] rfl
            have hDc := hD.sub (ws' := [(zh, .inr (0, [.ref za, .int cc, .int ac, .int fc, .int lc])), (za, .inl (cI, 10, .inl f'))]) [0, 1] (by decide) rfl
            refine ff_callI (va_runV (As := [.int x4]) (rest := []) ⟨hx, hb, hml, hown, hts⟩ (c_X0_hasTooLittleRoom l D cI zh za H.size cc ac fc lc f' x4) (cwV 1 hts gX0_canTake_X0_hasTooLittleRoom rfl rfl rfl (by decide +kernel) ⟨Nat.le_of_ble_eq_true rfl, Nat.le_of_ble_eq_true rfl⟩) (ff_preV (q := (RX0, TX0, 5)) (ci := 0) (q0 := 0) hPc hK hDc hN rfl rfl) rfl rfl hl.1 rfl (lv_room (Nat.le_of_ble_eq_true rfl)) dX0_canTake_68 ⟨Nat.le_of_ble_eq_true rfl, Nat.le_of_ble_eq_true rfl⟩) hP hD hS hA [0, 1] [] (wr := []) rfl rfl (by decide) (by decide) (fun r u H locs hw hP hD hS => ?_)
            replace hw := hw.symm
            subst hw
            have hP : va_P D vwCl [(zh, .inr (0, [.ref za, .int cc, .int ac, .int fc, .int lc])), (za, .inl (cI, 10, .inl f'))] H := hP
            have hD : va_D A [(zh, .inr (0, [.ref za, .int cc, .int ac, .int fc, .int lc])), (za, .inl (cI, 10, .inl f'))] := hD
            refine lv_if_ne (tgt := 78) hx hb dX0_canTake_71 (by decide) (fun c_5 => ?_) (fun c_5 => ?_)
            · have h := h.2 c_5
              refine lv_iconst (v := 0) hx hb dX0_canTake_78 (by decide) ?_
              refine lv_istore_n (lv' := [(3, .int 0), (0, .ref zh), (1, .int p1), (2, .int p2), (4, .int x4)]) hx hb dX0_canTake_79 rfl hl (by decide) rfl (fun ls hl => ?_)
              obtain ⟨y_6, ey_6⟩ : ∃ y : Int32, y = x4 + 1 := ⟨_, rfl⟩
              have h := h y_6 ey_6
              refine lv_iinc (v := y_6) (lv' := [(4, .int y_6), (3, .int 0), (0, .ref zh), (1, .int p1), (2, .int p2)]) hx hb dX0_canTake_80 hl (k := 4) rfl (by rw [ey_6]; rfl) (by decide) rfl (fun ls hl => ?_)
              refine lv_goto (tgt := 48) hx hb dX0_canTake_83 (by decide) ?_
              exact ih _ _ _ _ _ _ h.1 (Nat.lt_of_lt_of_le h.2 (Nat.le_of_lt_succ hmu)) (hP.sub [0, 1] rfl) (hD.sub [0, 1] (by decide) rfl) hS (lv_sub hl [2, 3, 4, 1, 0] rfl)
            · have h := h.1 c_5
              refine lv_iconst (v := 1) hx hb dX0_canTake_74 (by decide) ?_
              refine lv_goto (tgt := 79) hx hb dX0_canTake_75 (by decide) ?_
              refine lv_istore_n (lv' := [(3, .int 1), (0, .ref zh), (1, .int p1), (2, .int p2), (4, .int x4)]) hx hb dX0_canTake_79 rfl hl (by decide) rfl (fun ls hl => ?_)
              obtain ⟨y_7, ey_7⟩ : ∃ y : Int32, y = x4 + 1 := ⟨_, rfl⟩
              have h := h y_7 ey_7
              refine lv_iinc (v := y_7) (lv' := [(4, .int y_7), (3, .int 1), (0, .ref zh), (1, .int p1), (2, .int p2)]) hx hb dX0_canTake_80 hl (k := 4) rfl (by rw [ey_7]; rfl) (by decide) rfl (fun ls hl => ?_)
              refine lv_goto (tgt := 48) hx hb dX0_canTake_83 (by decide) ?_
              exact ih _ _ _ _ _ _ h.1 (Nat.lt_of_lt_of_le h.2 (Nat.le_of_lt_succ hmu)) (hP.sub [0, 1] rfl) (hD.sub [0, 1] (by decide) rfl) hS (lv_sub hl [2, 3, 4, 1, 0] rfl)
  have h := he
  unfold ve_X0_canTake at h
  have hl : lv_has ls 5 [(0, .ref zh), (1, .int p1), (2, .int p2)] := hl
  refine lv_aload_n hx hb dX0_canTake_0 rfl (lv_at hl 0 rfl) ?_
  have hPc := hP.sub (ws' := [(zh, .inr (0, [.ref za, .int cc, .int ac, .int fc, .int lc])), (za, .inl (cI, 10, .inl f))]) [0, 1] rfl
  have hDc := hD.sub (ws' := [(zh, .inr (0, [.ref za, .int cc, .int ac, .int fc, .int lc])), (za, .inl (cI, 10, .inl f))]) [0, 1] (by decide) rfl
  refine ff_callI (va_runV (As := []) (rest := []) ⟨hx, hb, hml, hown, hts⟩ (c_X0_emptyCells l D cI zh za H.size cc ac fc lc f) (cwV 0 hts gX0_canTake_X0_emptyCells rfl rfl rfl (by decide +kernel) ⟨Nat.le_of_ble_eq_true rfl, Nat.le_of_ble_eq_true rfl⟩) (ff_preV (q := (RX0, TX0, 5)) (ci := 0) (q0 := 0) hPc hK hDc hN rfl rfl) rfl rfl hl.1 rfl (lv_room (Nat.le_of_ble_eq_true rfl)) dX0_canTake_1 ⟨Nat.le_of_ble_eq_true rfl, Nat.le_of_ble_eq_true rfl⟩) hP hD hS hA [0, 1] [] (wr := []) rfl rfl (by decide) (by decide) (fun r u H locs hw hP hD hS => ?_)
  replace hw := hw.symm
  subst hw
  have hP : va_P D vwCl [(zh, .inr (0, [.ref za, .int cc, .int ac, .int fc, .int lc])), (za, .inl (cI, 10, .inl f))] H := hP
  have hD : va_D A [(zh, .inr (0, [.ref za, .int cc, .int ac, .int fc, .int lc])), (za, .inl (cI, 10, .inl f))] := hD
  refine lv_iload_n hx hb dX0_canTake_4 rfl (lv_at hl 1 rfl) ?_
  have hPc := hP.sub (ws' := []) [] rfl
  have hDc := hD.sub (ws' := []) [] (by decide) rfl
  refine ff_callI (va_runS (As := [.int (f 0), .int p1]) (rest := []) ⟨hx, hb, hml, hown, hts⟩ (c_X0_has l D cI H.size (f 0) p1) (va_cwS 2 hts gX0_canTake_X0_has rfl rfl rfl (by decide +kernel) ⟨Nat.le_of_ble_eq_true rfl, Nat.le_of_ble_eq_true rfl⟩) (ff_preS hPc hK hDc hN) rfl rfl hl.1 rfl (lv_room (Nat.le_of_ble_eq_true rfl)) dX0_canTake_5 ⟨Nat.le_of_ble_eq_true rfl, Nat.le_of_ble_eq_true rfl⟩) hP hD hS hA [] [0, 1] (wr := [(zh, .inr (0, [.ref za, .int cc, .int ac, .int fc, .int lc])), (za, .inl (cI, 10, .inl f))]) rfl rfl (by decide) (by decide) (fun r u H locs hw hP hD hS => ?_)
  replace hw := hw.symm
  subst hw
  have hP : va_P D vwCl [(zh, .inr (0, [.ref za, .int cc, .int ac, .int fc, .int lc])), (za, .inl (cI, 10, .inl f))] H := hP
  have hD : va_D A [(zh, .inr (0, [.ref za, .int cc, .int ac, .int fc, .int lc])), (za, .inl (cI, 10, .inl f))] := hD
  refine lv_if_ne (tgt := 13) hx hb dX0_canTake_8 (by decide) (fun c_8 => ?_) (fun c_8 => ?_)
  · have h := h.2 c_8
    refine lv_aload_n hx hb dX0_canTake_13 rfl (lv_at hl 0 rfl) ?_
    refine lv_iload_n hx hb dX0_canTake_14 rfl (lv_at hl 1 rfl) ?_
    refine lv_iload_n hx hb dX0_canTake_15 rfl (lv_at hl 2 rfl) ?_
    have hPc := hP.sub (ws' := [(zh, .inr (0, [.ref za, .int cc, .int ac, .int fc, .int lc])), (za, .inl (cI, 10, .inl f))]) [0, 1] rfl
    have hDc := hD.sub (ws' := [(zh, .inr (0, [.ref za, .int cc, .int ac, .int fc, .int lc])), (za, .inl (cI, 10, .inl f))]) [0, 1] (by decide) rfl
    refine ff_callV (va_runV (As := [.int p1, .int p2]) (rest := []) ⟨hx, hb, hml, hown, hts⟩ (c_X0_write l D cI zh za H.size cc ac fc lc f p1 p2) (cwV 2 hts gX0_canTake_X0_write rfl rfl rfl (by decide +kernel) ⟨Nat.le_of_ble_eq_true rfl, Nat.le_of_ble_eq_true rfl⟩) (ff_preV (q := (RX0, TX0, 5)) (ci := 0) (q0 := 0) hPc hK hDc hN rfl rfl) rfl rfl hl.1 rfl (lv_room (Nat.le_of_ble_eq_true rfl)) dX0_canTake_16 ⟨Nat.le_of_ble_eq_true rfl, Nat.le_of_ble_eq_true rfl⟩) hP hD hS hA [0, 1] [] (wr := []) rfl rfl (by decide) (by decide) (fun u H locs hw hP hD hS => ?_)
    replace hw := hw.symm
    subst hw
    have hP : va_P D vwCl [(zh, .inr (0, [.ref za, .int cc, .int ac, .int fc, .int lc])), (za, .inl (cI, 10, .inl (zwr f p1 p2)))] H := hP
    have hD : va_D A [(zh, .inr (0, [.ref za, .int cc, .int ac, .int fc, .int lc])), (za, .inl (cI, 10, .inl (zwr f p1 p2)))] := hD
    refine lv_aload_n hx hb dX0_canTake_19 rfl (lv_at hl 0 rfl) ?_
    refine lv_iload_n hx hb dX0_canTake_20 rfl (lv_at hl 1 rfl) ?_
    have hPc := hP.sub (ws' := [(zh, .inr (0, [.ref za, .int cc, .int ac, .int fc, .int lc])), (za, .inl (cI, 10, .inl (zwr f p1 p2)))]) [0, 1] rfl
    have hDc := hD.sub (ws' := [(zh, .inr (0, [.ref za, .int cc, .int ac, .int fc, .int lc])), (za, .inl (cI, 10, .inl (zwr f p1 p2)))]) [0, 1] (by decide) rfl
    refine ff_callI (va_runV (As := [.int p1]) (rest := []) ⟨hx, hb, hml, hown, hts⟩ (c_X0_fieldOf l D cI zh za H.size cc ac fc lc (zwr f p1 p2) p1) (cwV 1 hts gX0_canTake_X0_fieldOf rfl rfl rfl (by decide +kernel) ⟨Nat.le_of_ble_eq_true rfl, Nat.le_of_ble_eq_true rfl⟩) (ff_preV (q := (RX0, TX0, 5)) (ci := 0) (q0 := 0) hPc hK hDc hN rfl rfl) rfl rfl hl.1 rfl (lv_room (Nat.le_of_ble_eq_true rfl)) dX0_canTake_21 ⟨Nat.le_of_ble_eq_true rfl, Nat.le_of_ble_eq_true rfl⟩) hP hD hS hA [0, 1] [] (wr := []) rfl rfl (by decide) (by decide) (fun r u H locs hw hP hD hS => ?_)
    replace hw := hw.symm
    subst hw
    have hP : va_P D vwCl [(zh, .inr (0, [.ref za, .int cc, .int ac, .int fc, .int lc])), (za, .inl (cI, 10, .inl (zwr f p1 p2)))] H := hP
    have hD : va_D A [(zh, .inr (0, [.ref za, .int cc, .int ac, .int fc, .int lc])), (za, .inl (cI, 10, .inl (zwr f p1 p2)))] := hD
    have hPc := hP.sub (ws' := []) [] rfl
    have hDc := hD.sub (ws' := []) [] (by decide) rfl
    refine ff_callI (va_runS (As := [.int (zfo cc ac fc lc (zwr f p1 p2) p1)]) (rest := []) ⟨hx, hb, hml, hown, hts⟩ (c_J6_bitCount_0f7a4 l D cI H.size (zfo cc ac fc lc (zwr f p1 p2) p1)) (va_cwS 1 hts gX0_canTake_J6_bitCount_0f7a4 rfl rfl rfl (by decide +kernel) ⟨Nat.le_of_ble_eq_true rfl, Nat.le_of_ble_eq_true rfl⟩) (ff_preS hPc hK hDc hN) rfl rfl hl.1 rfl (lv_room (Nat.le_of_ble_eq_true rfl)) dX0_canTake_24 ⟨Nat.le_of_ble_eq_true rfl, Nat.le_of_ble_eq_true rfl⟩) hP hD hS hA [] [0, 1] (wr := [(zh, .inr (0, [.ref za, .int cc, .int ac, .int fc, .int lc])), (za, .inl (cI, 10, .inl (zwr f p1 p2)))]) rfl rfl (by decide) (by decide) (fun r u H locs hw hP hD hS => ?_)
    replace hw := hw.symm
    subst hw
    have hP : va_P D vwCl [(zh, .inr (0, [.ref za, .int cc, .int ac, .int fc, .int lc])), (za, .inl (cI, 10, .inl (zwr f p1 p2)))] H := hP
    have hD : va_D A [(zh, .inr (0, [.ref za, .int cc, .int ac, .int fc, .int lc])), (za, .inl (cI, 10, .inl (zwr f p1 p2)))] := hD
    refine lv_iload_n hx hb dX0_canTake_27 rfl (lv_at hl 2 rfl) ?_
    refine lv_icmp_gt (tgt := 43) hx hb dX0_canTake_28 (by decide) (fun c_9 => ?_) (fun c_9 => ?_)
    · have h := h.1 c_9
      refine lv_iconst (v := 0) hx hb dX0_canTake_43 (by decide) ?_
      refine lv_istore_n (lv' := [(3, .int 0), (0, .ref zh), (1, .int p1), (2, .int p2)]) hx hb dX0_canTake_44 rfl hl (by decide) rfl (fun ls hl => ?_)
      refine lv_iconst (v := 1) hx hb dX0_canTake_45 (by decide) ?_
      refine lv_istore (lv' := [(4, .int 1), (3, .int 0), (0, .ref zh), (1, .int p1), (2, .int p2)]) hx hb dX0_canTake_46 hl (by decide) rfl (fun ls hl => ?_)
      exact L48 _ _ _ _ _ _ _ h (Nat.lt_succ_self _) (hP.sub [0, 1] rfl) (hD.sub [0, 1] (by decide) rfl) hS (lv_sub hl [2, 3, 4, 1, 0] rfl)
    · have h := h.2 c_9
      refine lv_aload_n hx hb dX0_canTake_31 rfl (lv_at hl 0 rfl) ?_
      refine lv_iload_n hx hb dX0_canTake_32 rfl (lv_at hl 2 rfl) ?_
      have hPc := hP.sub (ws' := [(zh, .inr (0, [.ref za, .int cc, .int ac, .int fc, .int lc])), (za, .inl (cI, 10, .inl (zwr f p1 p2)))]) [0, 1] rfl
      have hDc := hD.sub (ws' := [(zh, .inr (0, [.ref za, .int cc, .int ac, .int fc, .int lc])), (za, .inl (cI, 10, .inl (zwr f p1 p2)))]) [0, 1] (by decide) rfl
      refine ff_callI (va_runV (As := [.int p2]) (rest := []) ⟨hx, hb, hml, hown, hts⟩ (c_X0_hasTooLittleRoom l D cI zh za H.size cc ac fc lc (zwr f p1 p2) p2) (cwV 1 hts gX0_canTake_X0_hasTooLittleRoom rfl rfl rfl (by decide +kernel) ⟨Nat.le_of_ble_eq_true rfl, Nat.le_of_ble_eq_true rfl⟩) (ff_preV (q := (RX0, TX0, 5)) (ci := 0) (q0 := 0) hPc hK hDc hN rfl rfl) rfl rfl hl.1 rfl (lv_room (Nat.le_of_ble_eq_true rfl)) dX0_canTake_33 ⟨Nat.le_of_ble_eq_true rfl, Nat.le_of_ble_eq_true rfl⟩) hP hD hS hA [0, 1] [] (wr := []) rfl rfl (by decide) (by decide) (fun r u H locs hw hP hD hS => ?_)
      replace hw := hw.symm
      subst hw
      have hP : va_P D vwCl [(zh, .inr (0, [.ref za, .int cc, .int ac, .int fc, .int lc])), (za, .inl (cI, 10, .inl (zwr f p1 p2)))] H := hP
      have hD : va_D A [(zh, .inr (0, [.ref za, .int cc, .int ac, .int fc, .int lc])), (za, .inl (cI, 10, .inl (zwr f p1 p2)))] := hD
      refine lv_if_ne (tgt := 43) hx hb dX0_canTake_36 (by decide) (fun c_10 => ?_) (fun c_10 => ?_)
      · have h := h.2 c_10
        refine lv_iconst (v := 0) hx hb dX0_canTake_43 (by decide) ?_
        refine lv_istore_n (lv' := [(3, .int 0), (0, .ref zh), (1, .int p1), (2, .int p2)]) hx hb dX0_canTake_44 rfl hl (by decide) rfl (fun ls hl => ?_)
        refine lv_iconst (v := 1) hx hb dX0_canTake_45 (by decide) ?_
        refine lv_istore (lv' := [(4, .int 1), (3, .int 0), (0, .ref zh), (1, .int p1), (2, .int p2)]) hx hb dX0_canTake_46 hl (by decide) rfl (fun ls hl => ?_)
        exact L48 _ _ _ _ _ _ _ h (Nat.lt_succ_self _) (hP.sub [0, 1] rfl) (hD.sub [0, 1] (by decide) rfl) hS (lv_sub hl [2, 3, 4, 1, 0] rfl)
      · have h := h.1 c_10
        refine lv_iconst (v := 1) hx hb dX0_canTake_39 (by decide) ?_
        refine lv_goto (tgt := 44) hx hb dX0_canTake_40 (by decide) ?_
        refine lv_istore_n (lv' := [(3, .int 1), (0, .ref zh), (1, .int p1), (2, .int p2)]) hx hb dX0_canTake_44 rfl hl (by decide) rfl (fun ls hl => ?_)
        refine lv_iconst (v := 1) hx hb dX0_canTake_45 (by decide) ?_
        refine lv_istore (lv' := [(4, .int 1), (3, .int 1), (0, .ref zh), (1, .int p1), (2, .int p2)]) hx hb dX0_canTake_46 hl (by decide) rfl (fun ls hl => ?_)
        exact L48 _ _ _ _ _ _ _ h (Nat.lt_succ_self _) (hP.sub [0, 1] rfl) (hD.sub [0, 1] (by decide) rfl) hS (lv_sub hl [2, 3, 4, 1, 0] rfl)
  · have h := h.1 c_8
    refine lv_iconst (v := 0) hx hb dX0_canTake_11 (by decide) ?_
    exact hret 0 (f) _ _ _ _ _ _ (by decide) h (hP.sub [0, 1] rfl) (hD.sub [0, 1] (by decide) rfl) hS (Nat.le_of_ble_eq_true rfl) (Nat.le_of_ble_eq_true rfl) dX0_canTake_12
theorem c_X0_canTake (l : Launch) (D : va_G) (cI : ClassId) (zh za : Nat) (sz : Nat) (cc : Int32) (ac : Int32) (fc : Int32) (lc : Int32) (f : Nat → Int32) (p1 : Int32) (p2 : Int32) : Met l yX0_canTake wsX0_canTake ({ frames := 4, cells := 0, slots := 0, locals := 85 } : Room) (ff_Pc D [(cI, .int)] [.ref zh, .int p1, .int p2] ([(zh, .inr (0, [.ref za, .int cc, .int ac, .int fc, .int lc])), (za, .inl (cI, 10, .inl f))] : va_W) sz) (va_Qi (fun (r : Int32) (u : (Nat → Int32)) => r = b2i (zct cc ac fc lc f p1 p2) ∧ u = (zctf f p1 p2)) (fun (u : (Nat → Int32)) t => ff_B D [(cI, .int)] (va_A ([(zh, .inr (0, [.ref za, .int cc, .int ac, .int fc, .int lc])), (za, .inl (cI, 10, .inl f))] : va_W) sz) [(zh, .inr (0, [.ref za, .int cc, .int ac, .int fc, .int lc])), (za, .inl (cI, 10, .inl u))] t) (va_A ([(zh, .inr (0, [.ref za, .int cc, .int ac, .int fc, .int lc])), (za, .inl (cI, 10, .inl f))] : va_W) sz)) 0 0 (va_A ([(zh, .inr (0, [.ref za, .int cc, .int ac, .int fc, .int lc])), (za, .inl (cI, 10, .inl f))] : va_W) sz) :=
  a_X0_canTake l D cI zh za sz cc ac fc lc f p1 p2 _ (I_X0_canTake_48 cc ac fc lc f p1 p2) (mu_X0_canTake_48 cc ac fc lc f p1 p2) (pl_X0_canTake_48 cc ac fc lc f p1 p2) (pe_X0_canTake cc ac fc lc f p1 p2)
set_option maxHeartbeats 4000000 in
set_option maxRecDepth 100000 in
theorem a_X0_leavesEnough (l : Launch) (D : va_G) (cI : ClassId) (zh za : Nat) (sz : Nat) (cc : Int32) (ac : Int32) (fc : Int32) (lc : Int32) (f : Nat → Int32) (p1 : Int32) (P : Int32 → Unit → Prop) (I4 : Int32 → Int32 → Prop) (mu4 : Int32 → Int32 → Nat) (hv4 : ∀ (x2 : Int32) (x3 : Int32), I4 x2 x3 → vs_X0_leavesEnough_4 cc ac fc lc f p1 P (fun (x29 : Int32) (x39 : Int32) => I4 x29 x39 ∧ mu4 x29 x39 < mu4 x2 x3) x2 x3) (he : ve_X0_leavesEnough cc ac fc lc f p1 P I4) : Met l yX0_leavesEnough wsX0_leavesEnough ({ frames := 2, cells := 0, slots := 0, locals := 41 } : Room) (ff_Pc D [(cI, .int)] [.ref zh, .int p1] ([(zh, .inr (0, [.ref za, .int cc, .int ac, .int fc, .int lc])), (za, .inl (cI, 10, .inl f))] : va_W) sz) (va_Qi P (fun (u : Unit) t => ff_B D [(cI, .int)] (va_A ([(zh, .inr (0, [.ref za, .int cc, .int ac, .int fc, .int lc])), (za, .inl (cI, 10, .inl f))] : va_W) sz) [(zh, .inr (0, [.ref za, .int cc, .int ac, .int fc, .int lc])), (za, .inl (cI, 10, .inl f))] t) (va_A ([(zh, .inr (0, [.ref za, .int cc, .int ac, .int fc, .int lc])), (za, .inl (cI, 10, .inl f))] : va_W) sz)) 0 0 (va_A ([(zh, .inr (0, [.ref za, .int cc, .int ac, .int fc, .int lc])), (za, .inl (cI, 10, .inl f))] : va_W) sz) := by
  refine ff_metZ (Wf := (fun (u : Unit) => ([(zh, .inr (0, [.ref za, .int cc, .int ac, .int fc, .int lc])), (za, .inl (cI, 10, .inl f))] : va_W))) (by decide +kernel) rfl (Nat.le_of_ble_eq_true rfl) ?_
  intro p e s m args below meth c A Q ls H hx hb hml hown hts hN hA hK hP hD hS hret hl
  have L4 : ∀ (N : Nat) (x2 : Int32) (x3 : Int32) (H : Heap) (locs : List Loc) (ls : Array Slot), I4 x2 x3 → mu4 x2 x3 < N → va_P D vwCl [(zh, .inr (0, [.ref za, .int cc, .int ac, .int fc, .int lc])), (za, .inl (cI, 10, .inl f))] H → va_D A [(zh, .inr (0, [.ref za, .int cc, .int ac, .int fc, .int lc])), (za, .inl (cI, 10, .inl f))] → va_S A s.heap H locs → lv_has ls 5 [(0, .ref zh), (1, .int p1), (2, .int x2), (3, .int x3)] → W p l e ({ frames := 2, cells := 0, slots := 0, locals := 41 } : Room) s m args below meth c H locs 0 0 Q (F0 m 4 ls []) := by
    intro N
    induction N with
    | zero => intros; rename_i hz _ _ _ _; exact absurd hz (Nat.not_lt_zero _)
    | succ N ih =>
      intro x2 x3 H locs ls hI hmu hP hD hS hl
      have h := hv4 x2 x3 hI
      unfold vs_X0_leavesEnough_4 at h
      refine lv_iload_n hx hb dX0_leavesEnough_4 rfl (lv_at hl 3 rfl) ?_
      refine lv_bipush (v := 9) hx hb dX0_leavesEnough_5 (by decide) ?_
      refine lv_icmp_gt (tgt := 47) hx hb dX0_leavesEnough_7 (by decide) (fun c_1 => ?_) (fun c_1 => ?_)
      · have h := h.1 c_1
        refine lv_iload_n hx hb dX0_leavesEnough_47 rfl (lv_at hl 2 rfl) ?_
        refine lv_aload_n hx hb dX0_leavesEnough_48 rfl (lv_at hl 0 rfl) ?_
        have hPc := hP.sub (ws' := [(zh, .inr (0, [.ref za, .int cc, .int ac, .int fc, .int lc])), (za, .inl (cI, 10, .inl f))]) [0, 1] rfl
        have hDc := hD.sub (ws' := [(zh, .inr (0, [.ref za, .int cc, .int ac, .int fc, .int lc])), (za, .inl (cI, 10, .inl f))]) [0, 1] (by decide) rfl
        refine ff_callI (va_runV (As := []) (rest := [.int x2]) ⟨hx, hb, hml, hown, hts⟩ (c_X0_emptyCells l D cI zh za H.size cc ac fc lc f) (cwV 0 hts gX0_leavesEnough_X0_emptyCells rfl rfl rfl (by decide +kernel) ⟨Nat.le_of_ble_eq_true rfl, Nat.le_of_ble_eq_true rfl⟩) (ff_preV (q := (RX0, TX0, 5)) (ci := 0) (q0 := 0) hPc hK hDc hN rfl rfl) rfl rfl hl.1 rfl (lv_room (Nat.le_of_ble_eq_true rfl)) dX0_leavesEnough_49 ⟨Nat.le_of_ble_eq_true rfl, Nat.le_of_ble_eq_true rfl⟩) hP hD hS hA [0, 1] [] (wr := []) rfl rfl (by decide) (by decide) (fun r u H locs hw hP hD hS => ?_)
        replace hw := hw.symm
        subst hw
        have hP : va_P D vwCl [(zh, .inr (0, [.ref za, .int cc, .int ac, .int fc, .int lc])), (za, .inl (cI, 10, .inl f))] H := hP
        have hD : va_D A [(zh, .inr (0, [.ref za, .int cc, .int ac, .int fc, .int lc])), (za, .inl (cI, 10, .inl f))] := hD
        have hPc := hP.sub (ws' := []) [] rfl
        have hDc := hD.sub (ws' := []) [] (by decide) rfl
        refine ff_callI (va_runS (As := [.int (f 0)]) (rest := [.int x2]) ⟨hx, hb, hml, hown, hts⟩ (c_J6_bitCount_0f7a4 l D cI H.size (f 0)) (va_cwS 1 hts gX0_leavesEnough_J6_bitCount_0f7a4 rfl rfl rfl (by decide +kernel) ⟨Nat.le_of_ble_eq_true rfl, Nat.le_of_ble_eq_true rfl⟩) (ff_preS hPc hK hDc hN) rfl rfl hl.1 rfl (lv_room (Nat.le_of_ble_eq_true rfl)) dX0_leavesEnough_52 ⟨Nat.le_of_ble_eq_true rfl, Nat.le_of_ble_eq_true rfl⟩) hP hD hS hA [] [0, 1] (wr := [(zh, .inr (0, [.ref za, .int cc, .int ac, .int fc, .int lc])), (za, .inl (cI, 10, .inl f))]) rfl rfl (by decide) (by decide) (fun r u H locs hw hP hD hS => ?_)
        replace hw := hw.symm
        subst hw
        have hP : va_P D vwCl [(zh, .inr (0, [.ref za, .int cc, .int ac, .int fc, .int lc])), (za, .inl (cI, 10, .inl f))] H := hP
        have hD : va_D A [(zh, .inr (0, [.ref za, .int cc, .int ac, .int fc, .int lc])), (za, .inl (cI, 10, .inl f))] := hD
        refine lv_icmp_ge (tgt := 62) hx hb dX0_leavesEnough_55 (by decide) (fun c_2 => ?_) (fun c_2 => ?_)
        · have h := h.1 c_2
          refine lv_iconst (v := 0) hx hb dX0_leavesEnough_62 (by decide) ?_
          exact hret 0 () _ _ _ _ _ _ (by decide) h (hP.sub [0, 1] rfl) (hD.sub [0, 1] (by decide) rfl) hS (Nat.le_of_ble_eq_true rfl) (Nat.le_of_ble_eq_true rfl) dX0_leavesEnough_63
        · have h := h.2 c_2
          refine lv_iconst (v := 1) hx hb dX0_leavesEnough_58 (by decide) ?_
          refine lv_goto (tgt := 63) hx hb dX0_leavesEnough_59 (by decide) ?_
          exact hret 1 () _ _ _ _ _ _ (by decide) h (hP.sub [0, 1] rfl) (hD.sub [0, 1] (by decide) rfl) hS (Nat.le_of_ble_eq_true rfl) (Nat.le_of_ble_eq_true rfl) dX0_leavesEnough_63
      · have h := h.2 c_1
        refine lv_aload_n hx hb dX0_leavesEnough_10 rfl (lv_at hl 0 rfl) ?_
        refine lv_iload_n hx hb dX0_leavesEnough_11 rfl (lv_at hl 3 rfl) ?_
        have hPc := hP.sub (ws' := [(zh, .inr (0, [.ref za, .int cc, .int ac, .int fc, .int lc])), (za, .inl (cI, 10, .inl f))]) [0, 1] rfl
        have hDc := hD.sub (ws' := [(zh, .inr (0, [.ref za, .int cc, .int ac, .int fc, .int lc])), (za, .inl (cI, 10, .inl f))]) [0, 1] (by decide) rfl
        refine ff_callI (va_runV (As := [.int x3]) (rest := []) ⟨hx, hb, hml, hown, hts⟩ (c_X0_cellsWith l D cI zh za H.size cc ac fc lc f x3) (cwV 1 hts gX0_leavesEnough_X0_cellsWith rfl rfl rfl (by decide +kernel) ⟨Nat.le_of_ble_eq_true rfl, Nat.le_of_ble_eq_true rfl⟩) (ff_preV (q := (RX0, TX0, 5)) (ci := 0) (q0 := 0) hPc hK hDc hN rfl rfl) rfl rfl hl.1 rfl (lv_room (Nat.le_of_ble_eq_true rfl)) dX0_leavesEnough_12 ⟨Nat.le_of_ble_eq_true rfl, Nat.le_of_ble_eq_true rfl⟩) hP hD hS hA [0, 1] [] (wr := []) rfl rfl (by decide) (by decide) (fun r u H locs hw hP hD hS => ?_)
        replace hw := hw.symm
        subst hw
        have hP : va_P D vwCl [(zh, .inr (0, [.ref za, .int cc, .int ac, .int fc, .int lc])), (za, .inl (cI, 10, .inl f))] H := hP
        have hD : va_D A [(zh, .inr (0, [.ref za, .int cc, .int ac, .int fc, .int lc])), (za, .inl (cI, 10, .inl f))] := hD
        have hPc := hP.sub (ws' := []) [] rfl
        have hDc := hD.sub (ws' := []) [] (by decide) rfl
        refine ff_callI (va_runS (As := [.int (zcw f x3)]) (rest := []) ⟨hx, hb, hml, hown, hts⟩ (c_J6_bitCount_0f7a4 l D cI H.size (zcw f x3)) (va_cwS 1 hts gX0_leavesEnough_J6_bitCount_0f7a4 rfl rfl rfl (by decide +kernel) ⟨Nat.le_of_ble_eq_true rfl, Nat.le_of_ble_eq_true rfl⟩) (ff_preS hPc hK hDc hN) rfl rfl hl.1 rfl (lv_room (Nat.le_of_ble_eq_true rfl)) dX0_leavesEnough_15 ⟨Nat.le_of_ble_eq_true rfl, Nat.le_of_ble_eq_true rfl⟩) hP hD hS hA [] [0, 1] (wr := [(zh, .inr (0, [.ref za, .int cc, .int ac, .int fc, .int lc])), (za, .inl (cI, 10, .inl f))]) rfl rfl (by decide) (by decide) (fun r u H locs hw hP hD hS => ?_)
        replace hw := hw.symm
        subst hw
        have hP : va_P D vwCl [(zh, .inr (0, [.ref za, .int cc, .int ac, .int fc, .int lc])), (za, .inl (cI, 10, .inl f))] H := hP
        have hD : va_D A [(zh, .inr (0, [.ref za, .int cc, .int ac, .int fc, .int lc])), (za, .inl (cI, 10, .inl f))] := hD
        refine lv_iload_n hx hb dX0_leavesEnough_18 rfl (lv_at hl 3 rfl) ?_
        refine lv_iload_n hx hb dX0_leavesEnough_19 rfl (lv_at hl 1 rfl) ?_
        refine lv_icmp_ne (tgt := 27) hx hb dX0_leavesEnough_20 (by decide) (fun c_3 => ?_) (fun c_3 => ?_)
        · have h := h.2 c_3
          refine lv_iconst (v := 0) hx hb dX0_leavesEnough_27 (by decide) ?_
          refine lv_iadd hx hb dX0_leavesEnough_28 ?_
          refine lv_topi (fun y_4 ey_4 => ?_)
          have h := h y_4 ey_4
          refine lv_istore (lv' := [(4, .int y_4), (0, .ref zh), (1, .int p1), (2, .int x2), (3, .int x3)]) hx hb dX0_leavesEnough_29 hl (by decide) rfl (fun ls hl => ?_)
          refine lv_iload_n hx hb dX0_leavesEnough_31 rfl (lv_at hl 3 rfl) ?_
          refine lv_iload hx hb dX0_leavesEnough_32 (lv_at hl 0 rfl) ?_
          refine lv_ineg hx hb dX0_leavesEnough_34 ?_
          refine lv_iload_n hx hb dX0_leavesEnough_35 rfl (lv_at hl 4 rfl) ?_
          obtain ⟨p_5, h⟩ := h
          have hPc := hP.sub (ws' := []) [] rfl
          have hDc := hD.sub (ws' := []) [] (by decide) rfl
          refine ff_callI (va_runS (As := [.int (-y_4), .int x3]) (rest := [.int x2]) ⟨hx, hb, hml, hown, hts⟩ (c_J9_floorMod_7cf53 l D cI H.size (-y_4) x3 p_5) (va_cwS 2 hts gX0_leavesEnough_J9_floorMod_7cf53 rfl rfl rfl (by decide +kernel) ⟨Nat.le_of_ble_eq_true rfl, Nat.le_of_ble_eq_true rfl⟩) (ff_preS hPc hK hDc hN) rfl rfl hl.1 rfl (lv_room (Nat.le_of_ble_eq_true rfl)) dX0_leavesEnough_36 ⟨Nat.le_of_ble_eq_true rfl, Nat.le_of_ble_eq_true rfl⟩) hP hD hS hA [] [0, 1] (wr := [(zh, .inr (0, [.ref za, .int cc, .int ac, .int fc, .int lc])), (za, .inl (cI, 10, .inl f))]) rfl rfl (by decide) (by decide) (fun r u H locs hw hP hD hS => ?_)
          replace hw := hw.symm
          subst hw
          have hP : va_P D vwCl [(zh, .inr (0, [.ref za, .int cc, .int ac, .int fc, .int lc])), (za, .inl (cI, 10, .inl f))] H := hP
          have hD : va_D A [(zh, .inr (0, [.ref za, .int cc, .int ac, .int fc, .int lc])), (za, .inl (cI, 10, .inl f))] := hD
          refine lv_iadd hx hb dX0_leavesEnough_39 ?_
          refine lv_topi (fun y_6 ey_6 => ?_)
          have h := h y_6 ey_6
          refine lv_istore_n (lv' := [(2, .int y_6), (4, .int y_4), (0, .ref zh), (1, .int p1), (3, .int x3)]) hx hb dX0_leavesEnough_40 rfl hl (by decide) rfl (fun ls hl => ?_)
          obtain ⟨y_7, ey_7⟩ : ∃ y : Int32, y = x3 + 1 := ⟨_, rfl⟩
          have h := h y_7 ey_7
          refine lv_iinc (v := y_7) (lv' := [(3, .int y_7), (2, .int y_6), (4, .int y_4), (0, .ref zh), (1, .int p1)]) hx hb dX0_leavesEnough_41 hl (k := 4) rfl (by rw [ey_7]; rfl) (by decide) rfl (fun ls hl => ?_)
          refine lv_goto (tgt := 4) hx hb dX0_leavesEnough_44 (by decide) ?_
          exact ih _ _ _ _ _ h.1 (Nat.lt_of_lt_of_le h.2 (Nat.le_of_lt_succ hmu)) (hP.sub [0, 1] rfl) (hD.sub [0, 1] (by decide) rfl) hS (lv_sub hl [3, 4, 1, 0] rfl)
        · have h := h.1 c_3
          refine lv_iconst (v := 1) hx hb dX0_leavesEnough_23 (by decide) ?_
          refine lv_goto (tgt := 28) hx hb dX0_leavesEnough_24 (by decide) ?_
          refine lv_iadd hx hb dX0_leavesEnough_28 ?_
          refine lv_topi (fun y_8 ey_8 => ?_)
          have h := h y_8 ey_8
          refine lv_istore (lv' := [(4, .int y_8), (0, .ref zh), (1, .int p1), (2, .int x2), (3, .int x3)]) hx hb dX0_leavesEnough_29 hl (by decide) rfl (fun ls hl => ?_)
          refine lv_iload_n hx hb dX0_leavesEnough_31 rfl (lv_at hl 3 rfl) ?_
          refine lv_iload hx hb dX0_leavesEnough_32 (lv_at hl 0 rfl) ?_
          refine lv_ineg hx hb dX0_leavesEnough_34 ?_
          refine lv_iload_n hx hb dX0_leavesEnough_35 rfl (lv_at hl 4 rfl) ?_
          obtain ⟨p_9, h⟩ := h
          have hPc := hP.sub (ws' := []) [] rfl
          have hDc := hD.sub (ws' := []) [] (by decide) rfl
          refine ff_callI (va_runS (As := [.int (-y_8), .int x3]) (rest := [.int x2]) ⟨hx, hb, hml, hown, hts⟩ (c_J9_floorMod_7cf53 l D cI H.size (-y_8) x3 p_9) (va_cwS 2 hts gX0_leavesEnough_J9_floorMod_7cf53 rfl rfl rfl (by decide +kernel) ⟨Nat.le_of_ble_eq_true rfl, Nat.le_of_ble_eq_true rfl⟩) (ff_preS hPc hK hDc hN) rfl rfl hl.1 rfl (lv_room (Nat.le_of_ble_eq_true rfl)) dX0_leavesEnough_36 ⟨Nat.le_of_ble_eq_true rfl, Nat.le_of_ble_eq_true rfl⟩) hP hD hS hA [] [0, 1] (wr := [(zh, .inr (0, [.ref za, .int cc, .int ac, .int fc, .int lc])), (za, .inl (cI, 10, .inl f))]) rfl rfl (by decide) (by decide) (fun r u H locs hw hP hD hS => ?_)
          replace hw := hw.symm
          subst hw
          have hP : va_P D vwCl [(zh, .inr (0, [.ref za, .int cc, .int ac, .int fc, .int lc])), (za, .inl (cI, 10, .inl f))] H := hP
          have hD : va_D A [(zh, .inr (0, [.ref za, .int cc, .int ac, .int fc, .int lc])), (za, .inl (cI, 10, .inl f))] := hD
          refine lv_iadd hx hb dX0_leavesEnough_39 ?_
          refine lv_topi (fun y_10 ey_10 => ?_)
          have h := h y_10 ey_10
          refine lv_istore_n (lv' := [(2, .int y_10), (4, .int y_8), (0, .ref zh), (1, .int p1), (3, .int x3)]) hx hb dX0_leavesEnough_40 rfl hl (by decide) rfl (fun ls hl => ?_)
          obtain ⟨y_11, ey_11⟩ : ∃ y : Int32, y = x3 + 1 := ⟨_, rfl⟩
          have h := h y_11 ey_11
          refine lv_iinc (v := y_11) (lv' := [(3, .int y_11), (2, .int y_10), (4, .int y_8), (0, .ref zh), (1, .int p1)]) hx hb dX0_leavesEnough_41 hl (k := 4) rfl (by rw [ey_11]; rfl) (by decide) rfl (fun ls hl => ?_)
          refine lv_goto (tgt := 4) hx hb dX0_leavesEnough_44 (by decide) ?_
          exact ih _ _ _ _ _ h.1 (Nat.lt_of_lt_of_le h.2 (Nat.le_of_lt_succ hmu)) (hP.sub [0, 1] rfl) (hD.sub [0, 1] (by decide) rfl) hS (lv_sub hl [3, 4, 1, 0] rfl)
  have h := he
  unfold ve_X0_leavesEnough at h
  have hl : lv_has ls 5 [(0, .ref zh), (1, .int p1)] := hl
  refine lv_iconst (v := 0) hx hb dX0_leavesEnough_0 (by decide) ?_
  refine lv_istore_n (lv' := [(2, .int 0), (0, .ref zh), (1, .int p1)]) hx hb dX0_leavesEnough_1 rfl hl (by decide) rfl (fun ls hl => ?_)
  refine lv_iconst (v := 1) hx hb dX0_leavesEnough_2 (by decide) ?_
  refine lv_istore_n (lv' := [(3, .int 1), (2, .int 0), (0, .ref zh), (1, .int p1)]) hx hb dX0_leavesEnough_3 rfl hl (by decide) rfl (fun ls hl => ?_)
  exact L4 _ _ _ _ _ _ h (Nat.lt_succ_self _) (hP.sub [0, 1] rfl) (hD.sub [0, 1] (by decide) rfl) hS (lv_sub hl [2, 3, 1, 0] rfl)
theorem c_X0_leavesEnough (l : Launch) (D : va_G) (cI : ClassId) (zh za : Nat) (sz : Nat) (cc : Int32) (ac : Int32) (fc : Int32) (lc : Int32) (f : Nat → Int32) (p1 : Int32) : Met l yX0_leavesEnough wsX0_leavesEnough ({ frames := 2, cells := 0, slots := 0, locals := 41 } : Room) (ff_Pc D [(cI, .int)] [.ref zh, .int p1] ([(zh, .inr (0, [.ref za, .int cc, .int ac, .int fc, .int lc])), (za, .inl (cI, 10, .inl f))] : va_W) sz) (va_Qi (fun (r : Int32) (u : Unit) => r = b2i (decide (zle f p1 9 0 < bc (f 0)))) (fun (u : Unit) t => ff_B D [(cI, .int)] (va_A ([(zh, .inr (0, [.ref za, .int cc, .int ac, .int fc, .int lc])), (za, .inl (cI, 10, .inl f))] : va_W) sz) [(zh, .inr (0, [.ref za, .int cc, .int ac, .int fc, .int lc])), (za, .inl (cI, 10, .inl f))] t) (va_A ([(zh, .inr (0, [.ref za, .int cc, .int ac, .int fc, .int lc])), (za, .inl (cI, 10, .inl f))] : va_W) sz)) 0 0 (va_A ([(zh, .inr (0, [.ref za, .int cc, .int ac, .int fc, .int lc])), (za, .inl (cI, 10, .inl f))] : va_W) sz) :=
  a_X0_leavesEnough l D cI zh za sz cc ac fc lc f p1 _ (I_X0_leavesEnough_4 cc ac fc lc f p1) (mu_X0_leavesEnough_4 cc ac fc lc f p1) (pl_X0_leavesEnough_4 cc ac fc lc f p1) (pe_X0_leavesEnough cc ac fc lc f p1)
set_option maxHeartbeats 4000000 in
set_option maxRecDepth 100000 in
theorem a_X0_hiddenCells (l : Launch) (D : va_G) (cI : ClassId) (zh za : Nat) (sz : Nat) (cc : Int32) (ac : Int32) (fc : Int32) (lc : Int32) (f : Nat → Int32) (P : Int32 → Unit → Prop) (I4 : Int32 → Int32 → Prop) (mu4 : Int32 → Int32 → Nat) (I19 : Int32 → Int32 → Int32 → Int32 → Prop) (mu19 : Int32 → Int32 → Int32 → Int32 → Nat) (hv4 : ∀ (x1 : Int32) (x2 : Int32), I4 x1 x2 → vs_X0_hiddenCells_4 cc ac fc lc f P (fun (x19 : Int32) (x29 : Int32) => I4 x19 x29 ∧ mu4 x19 x29 < mu4 x1 x2) (fun (x19 : Int32) (x29 : Int32) (x39 : Int32) (x49 : Int32) => I19 x19 x29 x39 x49 ∧ mu19 x19 x29 x39 x49 < mu4 x1 x2) x1 x2) (hv19 : ∀ (x1 : Int32) (x2 : Int32) (x3 : Int32) (x4 : Int32), I19 x1 x2 x3 x4 → vs_X0_hiddenCells_19 cc ac fc lc f P (fun (x19 : Int32) (x29 : Int32) => I4 x19 x29 ∧ mu4 x19 x29 < mu19 x1 x2 x3 x4) (fun (x19 : Int32) (x29 : Int32) (x39 : Int32) (x49 : Int32) => I19 x19 x29 x39 x49 ∧ mu19 x19 x29 x39 x49 < mu19 x1 x2 x3 x4) x1 x2 x3 x4) (he : ve_X0_hiddenCells cc ac fc lc f P I4 I19) : Met l yX0_hiddenCells wsX0_hiddenCells ({ frames := 2, cells := 0, slots := 0, locals := 51 } : Room) (ff_Pc D [(cI, .int)] [.ref zh] ([(zh, .inr (0, [.ref za, .int cc, .int ac, .int fc, .int lc])), (za, .inl (cI, 10, .inl f))] : va_W) sz) (va_Qi P (fun (u : Unit) t => ff_B D [(cI, .int)] (va_A ([(zh, .inr (0, [.ref za, .int cc, .int ac, .int fc, .int lc])), (za, .inl (cI, 10, .inl f))] : va_W) sz) [(zh, .inr (0, [.ref za, .int cc, .int ac, .int fc, .int lc])), (za, .inl (cI, 10, .inl f))] t) (va_A ([(zh, .inr (0, [.ref za, .int cc, .int ac, .int fc, .int lc])), (za, .inl (cI, 10, .inl f))] : va_W) sz)) 0 0 (va_A ([(zh, .inr (0, [.ref za, .int cc, .int ac, .int fc, .int lc])), (za, .inl (cI, 10, .inl f))] : va_W) sz) := by
  refine ff_metI (Wf := (fun (u : Unit) => ([(zh, .inr (0, [.ref za, .int cc, .int ac, .int fc, .int lc])), (za, .inl (cI, 10, .inl f))] : va_W))) (by decide +kernel) rfl (Nat.le_of_ble_eq_true rfl) ?_
  intro p e s m args below meth c A Q ls H hx hb hml hown hts hN hA hK hP hD hS hret hl
  have LL4 : ∀ (N : Nat), (∀ (x1 : Int32) (x2 : Int32) (H : Heap) (locs : List Loc) (ls : Array Slot), I4 x1 x2 → mu4 x1 x2 < N → va_P D vwCl [(zh, .inr (0, [.ref za, .int cc, .int ac, .int fc, .int lc])), (za, .inl (cI, 10, .inl f))] H → va_D A [(zh, .inr (0, [.ref za, .int cc, .int ac, .int fc, .int lc])), (za, .inl (cI, 10, .inl f))] → va_S A s.heap H locs → lv_has ls 6 [(0, .ref zh), (1, .int x1), (2, .int x2)] → W p l e ({ frames := 2, cells := 0, slots := 0, locals := 51 } : Room) s m args below meth c H locs 0 0 Q (F0 m 4 ls [])) ∧ (∀ (x1 : Int32) (x2 : Int32) (x3 : Int32) (x4 : Int32) (H : Heap) (locs : List Loc) (ls : Array Slot), I19 x1 x2 x3 x4 → mu19 x1 x2 x3 x4 < N → va_P D vwCl [(zh, .inr (0, [.ref za, .int cc, .int ac, .int fc, .int lc])), (za, .inl (cI, 10, .inl f))] H → va_D A [(zh, .inr (0, [.ref za, .int cc, .int ac, .int fc, .int lc])), (za, .inl (cI, 10, .inl f))] → va_S A s.heap H locs → lv_has ls 6 [(0, .ref zh), (1, .int x1), (2, .int x2), (3, .int x3), (4, .int x4)] → W p l e ({ frames := 2, cells := 0, slots := 0, locals := 51 } : Room) s m args below meth c H locs 0 0 Q (F0 m 19 ls [])) := by
    intro N
    induction N with
    | zero => exact ⟨by intros; rename_i hz _ _ _ _; exact absurd hz (Nat.not_lt_zero _), by intros; rename_i hz _ _ _ _; exact absurd hz (Nat.not_lt_zero _)⟩
    | succ N ih =>
      refine ⟨?_, ?_⟩
      · intro x1 x2 H locs ls hI hmu hP hD hS hl
        have h := hv4 x1 x2 hI
        unfold vs_X0_hiddenCells_4 at h
        refine lv_iload_n hx hb dX0_hiddenCells_4 rfl (lv_at hl 2 rfl) ?_
        refine lv_bipush (v := 9) hx hb dX0_hiddenCells_5 (by decide) ?_
        refine lv_icmp_gt (tgt := 86) hx hb dX0_hiddenCells_7 (by decide) (fun c_1 => ?_) (fun c_1 => ?_)
        · have h := h.1 c_1
          refine lv_aload_n hx hb dX0_hiddenCells_86 rfl (lv_at hl 0 rfl) ?_
          have hPc := hP.sub (ws' := [(zh, .inr (0, [.ref za, .int cc, .int ac, .int fc, .int lc])), (za, .inl (cI, 10, .inl f))]) [0, 1] rfl
          have hDc := hD.sub (ws' := [(zh, .inr (0, [.ref za, .int cc, .int ac, .int fc, .int lc])), (za, .inl (cI, 10, .inl f))]) [0, 1] (by decide) rfl
          refine ff_callI (va_runV (As := []) (rest := []) ⟨hx, hb, hml, hown, hts⟩ (c_X0_emptyCells l D cI zh za H.size cc ac fc lc f) (cwV 0 hts gX0_hiddenCells_X0_emptyCells rfl rfl rfl (by decide +kernel) ⟨Nat.le_of_ble_eq_true rfl, Nat.le_of_ble_eq_true rfl⟩) (ff_preV (q := (RX0, TX0, 5)) (ci := 0) (q0 := 0) hPc hK hDc hN rfl rfl) rfl rfl hl.1 rfl (lv_room (Nat.le_of_ble_eq_true rfl)) dX0_hiddenCells_87 ⟨Nat.le_of_ble_eq_true rfl, Nat.le_of_ble_eq_true rfl⟩) hP hD hS hA [0, 1] [] (wr := []) rfl rfl (by decide) (by decide) (fun r u H locs hw hP hD hS => ?_)
          replace hw := hw.symm
          subst hw
          have hP : va_P D vwCl [(zh, .inr (0, [.ref za, .int cc, .int ac, .int fc, .int lc])), (za, .inl (cI, 10, .inl f))] H := hP
          have hD : va_D A [(zh, .inr (0, [.ref za, .int cc, .int ac, .int fc, .int lc])), (za, .inl (cI, 10, .inl f))] := hD
          refine lv_iload_n hx hb dX0_hiddenCells_90 rfl (lv_at hl 1 rfl) ?_
          refine lv_iconst (v := (-1)) hx hb dX0_hiddenCells_91 (by decide) ?_
          refine lv_ixor hx hb dX0_hiddenCells_92 ?_
          refine lv_iand hx hb dX0_hiddenCells_93 ?_
          exact hret ((f 0) &&& (x1 ^^^ (-1))) () _ _ _ _ _ _ h (hP.sub [0, 1] rfl) (hD.sub [0, 1] (by decide) rfl) hS (Nat.le_of_ble_eq_true rfl) (Nat.le_of_ble_eq_true rfl) dX0_hiddenCells_94
        · have h := h.2 c_1
          refine lv_aload_n hx hb dX0_hiddenCells_10 rfl (lv_at hl 0 rfl) ?_
          refine lv_iload_n hx hb dX0_hiddenCells_11 rfl (lv_at hl 2 rfl) ?_
          have hPc := hP.sub (ws' := [(zh, .inr (0, [.ref za, .int cc, .int ac, .int fc, .int lc])), (za, .inl (cI, 10, .inl f))]) [0, 1] rfl
          have hDc := hD.sub (ws' := [(zh, .inr (0, [.ref za, .int cc, .int ac, .int fc, .int lc])), (za, .inl (cI, 10, .inl f))]) [0, 1] (by decide) rfl
          refine ff_callI (va_runV (As := [.int x2]) (rest := []) ⟨hx, hb, hml, hown, hts⟩ (c_X0_cellsWith l D cI zh za H.size cc ac fc lc f x2) (cwV 1 hts gX0_hiddenCells_X0_cellsWith rfl rfl rfl (by decide +kernel) ⟨Nat.le_of_ble_eq_true rfl, Nat.le_of_ble_eq_true rfl⟩) (ff_preV (q := (RX0, TX0, 5)) (ci := 0) (q0 := 0) hPc hK hDc hN rfl rfl) rfl rfl hl.1 rfl (lv_room (Nat.le_of_ble_eq_true rfl)) dX0_hiddenCells_12 ⟨Nat.le_of_ble_eq_true rfl, Nat.le_of_ble_eq_true rfl⟩) hP hD hS hA [0, 1] [] (wr := []) rfl rfl (by decide) (by decide) (fun r u H locs hw hP hD hS => ?_)
          replace hw := hw.symm
          subst hw
          have hP : va_P D vwCl [(zh, .inr (0, [.ref za, .int cc, .int ac, .int fc, .int lc])), (za, .inl (cI, 10, .inl f))] H := hP
          have hD : va_D A [(zh, .inr (0, [.ref za, .int cc, .int ac, .int fc, .int lc])), (za, .inl (cI, 10, .inl f))] := hD
          refine lv_topi (fun y_2 ey_2 => ?_)
          have h := h y_2 ey_2
          refine lv_istore_n (lv' := [(3, .int y_2), (0, .ref zh), (1, .int x1), (2, .int x2)]) hx hb dX0_hiddenCells_15 rfl hl (by decide) rfl (fun ls hl => ?_)
          refine lv_iconst (v := 0) hx hb dX0_hiddenCells_16 (by decide) ?_
          refine lv_istore (lv' := [(4, .int 0), (3, .int y_2), (0, .ref zh), (1, .int x1), (2, .int x2)]) hx hb dX0_hiddenCells_17 hl (by decide) rfl (fun ls hl => ?_)
          exact ih.2 _ _ _ _ _ _ _ h.1 (Nat.lt_of_lt_of_le h.2 (Nat.le_of_lt_succ hmu)) (hP.sub [0, 1] rfl) (hD.sub [0, 1] (by decide) rfl) hS (lv_sub hl [2, 3, 4, 1, 0] rfl)
      · intro x1 x2 x3 x4 H locs ls hI hmu hP hD hS hl
        have h := hv19 x1 x2 x3 x4 hI
        unfold vs_X0_hiddenCells_19 at h
        refine lv_iload hx hb dX0_hiddenCells_19 (lv_at hl 4 rfl) ?_
        refine lv_bipush (v := 12) hx hb dX0_hiddenCells_21 (by decide) ?_
        refine lv_icmp_ge (tgt := 80) hx hb dX0_hiddenCells_23 (by decide) (fun c_3 => ?_) (fun c_3 => ?_)
        · have h := h.1 c_3
          obtain ⟨y_4, ey_4⟩ : ∃ y : Int32, y = x2 + 1 := ⟨_, rfl⟩
          have h := h y_4 ey_4
          refine lv_iinc (v := y_4) (lv' := [(2, .int y_4), (0, .ref zh), (1, .int x1), (3, .int x3), (4, .int x4)]) hx hb dX0_hiddenCells_80 hl (k := 2) rfl (by rw [ey_4]; rfl) (by decide) rfl (fun ls hl => ?_)
          refine lv_goto (tgt := 4) hx hb dX0_hiddenCells_83 (by decide) ?_
          exact ih.1 _ _ _ _ _ h.1 (Nat.lt_of_lt_of_le h.2 (Nat.le_of_lt_succ hmu)) (hP.sub [0, 1] rfl) (hD.sub [0, 1] (by decide) rfl) hS (lv_sub hl [1, 2, 0] rfl)
        · have h := h.2 c_3
          refine lv_iload_n hx hb dX0_hiddenCells_26 rfl (lv_at hl 3 rfl) ?_
          refine lv_if_eq (tgt := 80) hx hb dX0_hiddenCells_27 (by decide) (fun c_5 => ?_) (fun c_5 => ?_)
          · have h := h.1 c_5
            obtain ⟨y_6, ey_6⟩ : ∃ y : Int32, y = x2 + 1 := ⟨_, rfl⟩
            have h := h y_6 ey_6
            refine lv_iinc (v := y_6) (lv' := [(2, .int y_6), (0, .ref zh), (1, .int x1), (3, .int x3), (4, .int x4)]) hx hb dX0_hiddenCells_80 hl (k := 2) rfl (by rw [ey_6]; rfl) (by decide) rfl (fun ls hl => ?_)
            refine lv_goto (tgt := 4) hx hb dX0_hiddenCells_83 (by decide) ?_
            exact ih.1 _ _ _ _ _ h.1 (Nat.lt_of_lt_of_le h.2 (Nat.le_of_lt_succ hmu)) (hP.sub [0, 1] rfl) (hD.sub [0, 1] (by decide) rfl) hS (lv_sub hl [1, 2, 0] rfl)
          · have h := h.2 c_5
            refine lv_aload_n hx hb dX0_hiddenCells_30 rfl (lv_at hl 0 rfl) ?_
            refine lv_iload_n hx hb dX0_hiddenCells_31 rfl (lv_at hl 3 rfl) ?_
            have hPc := hP.sub (ws' := []) [] rfl
            have hDc := hD.sub (ws' := []) [] (by decide) rfl
            refine ff_callI (va_runS (As := [.int x3]) (rest := [.ref zh]) ⟨hx, hb, hml, hown, hts⟩ (c_X0_lowest l D cI H.size x3) (va_cwS 1 hts gX0_hiddenCells_X0_lowest rfl rfl rfl (by decide +kernel) ⟨Nat.le_of_ble_eq_true rfl, Nat.le_of_ble_eq_true rfl⟩) (ff_preS hPc hK hDc hN) rfl rfl hl.1 rfl (lv_room (Nat.le_of_ble_eq_true rfl)) dX0_hiddenCells_32 ⟨Nat.le_of_ble_eq_true rfl, Nat.le_of_ble_eq_true rfl⟩) hP hD hS hA [] [0, 1] (wr := [(zh, .inr (0, [.ref za, .int cc, .int ac, .int fc, .int lc])), (za, .inl (cI, 10, .inl f))]) rfl rfl (by decide) (by decide) (fun r u H locs hw hP hD hS => ?_)
            replace hw := hw.symm
            subst hw
            have hP : va_P D vwCl [(zh, .inr (0, [.ref za, .int cc, .int ac, .int fc, .int lc])), (za, .inl (cI, 10, .inl f))] H := hP
            have hD : va_D A [(zh, .inr (0, [.ref za, .int cc, .int ac, .int fc, .int lc])), (za, .inl (cI, 10, .inl f))] := hD
            refine lv_aload_n hx hb dX0_hiddenCells_35 rfl (lv_at hl 0 rfl) ?_
            refine lv_iload_n hx hb dX0_hiddenCells_36 rfl (lv_at hl 2 rfl) ?_
            have hPc := hP.sub (ws' := [(zh, .inr (0, [.ref za, .int cc, .int ac, .int fc, .int lc])), (za, .inl (cI, 10, .inl f))]) [0, 1] rfl
            have hDc := hD.sub (ws' := [(zh, .inr (0, [.ref za, .int cc, .int ac, .int fc, .int lc])), (za, .inl (cI, 10, .inl f))]) [0, 1] (by decide) rfl
            refine ff_callI (va_runV (As := [.int x2]) (rest := [.int (zlow x3), .ref zh]) ⟨hx, hb, hml, hown, hts⟩ (c_X0_cellsWith l D cI zh za H.size cc ac fc lc f x2) (cwV 1 hts gX0_hiddenCells_X0_cellsWith rfl rfl rfl (by decide +kernel) ⟨Nat.le_of_ble_eq_true rfl, Nat.le_of_ble_eq_true rfl⟩) (ff_preV (q := (RX0, TX0, 5)) (ci := 0) (q0 := 0) hPc hK hDc hN rfl rfl) rfl rfl hl.1 rfl (lv_room (Nat.le_of_ble_eq_true rfl)) dX0_hiddenCells_37 ⟨Nat.le_of_ble_eq_true rfl, Nat.le_of_ble_eq_true rfl⟩) hP hD hS hA [0, 1] [] (wr := []) rfl rfl (by decide) (by decide) (fun r u H locs hw hP hD hS => ?_)
            replace hw := hw.symm
            subst hw
            have hP : va_P D vwCl [(zh, .inr (0, [.ref za, .int cc, .int ac, .int fc, .int lc])), (za, .inl (cI, 10, .inl f))] H := hP
            have hD : va_D A [(zh, .inr (0, [.ref za, .int cc, .int ac, .int fc, .int lc])), (za, .inl (cI, 10, .inl f))] := hD
            refine lv_bipush (v := 12) hx hb dX0_hiddenCells_40 (by decide) ?_
            have hPc := hP.sub (ws' := [(zh, .inr (0, [.ref za, .int cc, .int ac, .int fc, .int lc])), (za, .inl (cI, 10, .inl f))]) [0, 1] rfl
            have hDc := hD.sub (ws' := [(zh, .inr (0, [.ref za, .int cc, .int ac, .int fc, .int lc])), (za, .inl (cI, 10, .inl f))]) [0, 1] (by decide) rfl
            refine ff_callI (va_runV (As := [.int (zlow x3), .int (zcw f x2), .int 12]) (rest := []) ⟨hx, hb, hml, hown, hts⟩ (c_X0_spread l D cI zh za H.size cc ac fc lc f (zlow x3) (zcw f x2) 12) (cwV 3 hts gX0_hiddenCells_X0_spread rfl rfl rfl (by decide +kernel) ⟨Nat.le_of_ble_eq_true rfl, Nat.le_of_ble_eq_true rfl⟩) (ff_preV (q := (RX0, TX0, 5)) (ci := 0) (q0 := 0) hPc hK hDc hN rfl rfl) rfl rfl hl.1 rfl (lv_room (Nat.le_of_ble_eq_true rfl)) dX0_hiddenCells_42 ⟨Nat.le_of_ble_eq_true rfl, Nat.le_of_ble_eq_true rfl⟩) hP hD hS hA [0, 1] [] (wr := []) rfl rfl (by decide) (by decide) (fun r u H locs hw hP hD hS => ?_)
            replace hw := hw.symm
            subst hw
            have hP : va_P D vwCl [(zh, .inr (0, [.ref za, .int cc, .int ac, .int fc, .int lc])), (za, .inl (cI, 10, .inl f))] H := hP
            have hD : va_D A [(zh, .inr (0, [.ref za, .int cc, .int ac, .int fc, .int lc])), (za, .inl (cI, 10, .inl f))] := hD
            refine lv_topi (fun y_7 ey_7 => ?_)
            have h := h y_7 ey_7
            refine lv_istore (lv' := [(5, .int y_7), (0, .ref zh), (1, .int x1), (2, .int x2), (3, .int x3), (4, .int x4)]) hx hb dX0_hiddenCells_45 hl (by decide) rfl (fun ls hl => ?_)
            refine lv_iload_n hx hb dX0_hiddenCells_47 rfl (lv_at hl 2 rfl) ?_
            refine lv_aload_n hx hb dX0_hiddenCells_48 rfl (lv_at hl 1 rfl) ?_
            refine lv_iload hx hb dX0_hiddenCells_49 (lv_at hl 0 rfl) ?_
            refine lv_aload_n hx hb dX0_hiddenCells_51 rfl (lv_at hl 1 rfl) ?_
            have hPc := hP.sub (ws' := [(zh, .inr (0, [.ref za, .int cc, .int ac, .int fc, .int lc])), (za, .inl (cI, 10, .inl f))]) [0, 1] rfl
            have hDc := hD.sub (ws' := [(zh, .inr (0, [.ref za, .int cc, .int ac, .int fc, .int lc])), (za, .inl (cI, 10, .inl f))]) [0, 1] (by decide) rfl
            refine ff_callI (va_runV (As := []) (rest := [.int y_7, .ref zh, .int x1]) ⟨hx, hb, hml, hown, hts⟩ (c_X0_emptyCells l D cI zh za H.size cc ac fc lc f) (cwV 0 hts gX0_hiddenCells_X0_emptyCells rfl rfl rfl (by decide +kernel) ⟨Nat.le_of_ble_eq_true rfl, Nat.le_of_ble_eq_true rfl⟩) (ff_preV (q := (RX0, TX0, 5)) (ci := 0) (q0 := 0) hPc hK hDc hN rfl rfl) rfl rfl hl.1 rfl (lv_room (Nat.le_of_ble_eq_true rfl)) dX0_hiddenCells_52 ⟨Nat.le_of_ble_eq_true rfl, Nat.le_of_ble_eq_true rfl⟩) hP hD hS hA [0, 1] [] (wr := []) rfl rfl (by decide) (by decide) (fun r u H locs hw hP hD hS => ?_)
            replace hw := hw.symm
            subst hw
            have hP : va_P D vwCl [(zh, .inr (0, [.ref za, .int cc, .int ac, .int fc, .int lc])), (za, .inl (cI, 10, .inl f))] H := hP
            have hD : va_D A [(zh, .inr (0, [.ref za, .int cc, .int ac, .int fc, .int lc])), (za, .inl (cI, 10, .inl f))] := hD
            refine lv_iload_n hx hb dX0_hiddenCells_55 rfl (lv_at hl 3 rfl) ?_
            refine lv_iload hx hb dX0_hiddenCells_56 (lv_at hl 0 rfl) ?_
            have hPc := hP.sub (ws' := []) [] rfl
            have hDc := hD.sub (ws' := []) [] (by decide) rfl
            refine ff_callI (va_runS (As := [.int y_7]) (rest := [.int x2, .int (f 0), .int y_7, .ref zh, .int x1]) ⟨hx, hb, hml, hown, hts⟩ (c_J6_bitCount_0f7a4 l D cI H.size y_7) (va_cwS 1 hts gX0_hiddenCells_J6_bitCount_0f7a4 rfl rfl rfl (by decide +kernel) ⟨Nat.le_of_ble_eq_true rfl, Nat.le_of_ble_eq_true rfl⟩) (ff_preS hPc hK hDc hN) rfl rfl hl.1 rfl (lv_room (Nat.le_of_ble_eq_true rfl)) dX0_hiddenCells_58 ⟨Nat.le_of_ble_eq_true rfl, Nat.le_of_ble_eq_true rfl⟩) hP hD hS hA [] [0, 1] (wr := [(zh, .inr (0, [.ref za, .int cc, .int ac, .int fc, .int lc])), (za, .inl (cI, 10, .inl f))]) rfl rfl (by decide) (by decide) (fun r u H locs hw hP hD hS => ?_)
            replace hw := hw.symm
            subst hw
            have hP : va_P D vwCl [(zh, .inr (0, [.ref za, .int cc, .int ac, .int fc, .int lc])), (za, .inl (cI, 10, .inl f))] H := hP
            have hD : va_D A [(zh, .inr (0, [.ref za, .int cc, .int ac, .int fc, .int lc])), (za, .inl (cI, 10, .inl f))] := hD
            refine lv_isub hx hb dX0_hiddenCells_61 ?_
            have hPc := hP.sub (ws' := [(zh, .inr (0, [.ref za, .int cc, .int ac, .int fc, .int lc])), (za, .inl (cI, 10, .inl f))]) [0, 1] rfl
            have hDc := hD.sub (ws' := [(zh, .inr (0, [.ref za, .int cc, .int ac, .int fc, .int lc])), (za, .inl (cI, 10, .inl f))]) [0, 1] (by decide) rfl
            refine ff_callI (va_runV (As := [.int y_7, .int (f 0), .int (x2 - (bc y_7))]) (rest := [.int x1]) ⟨hx, hb, hml, hown, hts⟩ (c_X0_spread l D cI zh za H.size cc ac fc lc f y_7 (f 0) (x2 - (bc y_7))) (cwV 3 hts gX0_hiddenCells_X0_spread rfl rfl rfl (by decide +kernel) ⟨Nat.le_of_ble_eq_true rfl, Nat.le_of_ble_eq_true rfl⟩) (ff_preV (q := (RX0, TX0, 5)) (ci := 0) (q0 := 0) hPc hK hDc hN rfl rfl) rfl rfl hl.1 rfl (lv_room (Nat.le_of_ble_eq_true rfl)) dX0_hiddenCells_62 ⟨Nat.le_of_ble_eq_true rfl, Nat.le_of_ble_eq_true rfl⟩) hP hD hS hA [0, 1] [] (wr := []) rfl rfl (by decide) (by decide) (fun r u H locs hw hP hD hS => ?_)
            replace hw := hw.symm
            subst hw
            have hP : va_P D vwCl [(zh, .inr (0, [.ref za, .int cc, .int ac, .int fc, .int lc])), (za, .inl (cI, 10, .inl f))] H := hP
            have hD : va_D A [(zh, .inr (0, [.ref za, .int cc, .int ac, .int fc, .int lc])), (za, .inl (cI, 10, .inl f))] := hD
            refine lv_ior hx hb dX0_hiddenCells_65 ?_
            refine lv_topi (fun y_8 ey_8 => ?_)
            have h := h y_8 ey_8
            refine lv_istore_n (lv' := [(1, .int y_8), (5, .int y_7), (0, .ref zh), (2, .int x2), (3, .int x3), (4, .int x4)]) hx hb dX0_hiddenCells_66 rfl hl (by decide) rfl (fun ls hl => ?_)
            refine lv_iload_n hx hb dX0_hiddenCells_67 rfl (lv_at hl 4 rfl) ?_
            refine lv_iload hx hb dX0_hiddenCells_68 (lv_at hl 1 rfl) ?_
            refine lv_iconst (v := (-1)) hx hb dX0_hiddenCells_70 (by decide) ?_
            refine lv_ixor hx hb dX0_hiddenCells_71 ?_
            refine lv_iand hx hb dX0_hiddenCells_72 ?_
            refine lv_topi (fun y_9 ey_9 => ?_)
            have h := h y_9 ey_9
            refine lv_istore_n (lv' := [(3, .int y_9), (1, .int y_8), (5, .int y_7), (0, .ref zh), (2, .int x2), (4, .int x4)]) hx hb dX0_hiddenCells_73 rfl hl (by decide) rfl (fun ls hl => ?_)
            obtain ⟨y_10, ey_10⟩ : ∃ y : Int32, y = x4 + 1 := ⟨_, rfl⟩
            have h := h y_10 ey_10
            refine lv_iinc (v := y_10) (lv' := [(4, .int y_10), (3, .int y_9), (1, .int y_8), (5, .int y_7), (0, .ref zh), (2, .int x2)]) hx hb dX0_hiddenCells_74 hl (k := 5) rfl (by rw [ey_10]; rfl) (by decide) rfl (fun ls hl => ?_)
            refine lv_goto (tgt := 19) hx hb dX0_hiddenCells_77 (by decide) ?_
            exact ih.2 _ _ _ _ _ _ _ h.1 (Nat.lt_of_lt_of_le h.2 (Nat.le_of_lt_succ hmu)) (hP.sub [0, 1] rfl) (hD.sub [0, 1] (by decide) rfl) hS (lv_sub hl [4, 2, 5, 1, 0] rfl)
  have L4 := fun N => (LL4 N).1
  have L19 := fun N => (LL4 N).2
  have h := he
  unfold ve_X0_hiddenCells at h
  have hl : lv_has ls 6 [(0, .ref zh)] := hl
  refine lv_iconst (v := 0) hx hb dX0_hiddenCells_0 (by decide) ?_
  refine lv_istore_n (lv' := [(1, .int 0), (0, .ref zh)]) hx hb dX0_hiddenCells_1 rfl hl (by decide) rfl (fun ls hl => ?_)
  refine lv_iconst (v := 1) hx hb dX0_hiddenCells_2 (by decide) ?_
  refine lv_istore_n (lv' := [(2, .int 1), (1, .int 0), (0, .ref zh)]) hx hb dX0_hiddenCells_3 rfl hl (by decide) rfl (fun ls hl => ?_)
  exact L4 _ _ _ _ _ _ h (Nat.lt_succ_self _) (hP.sub [0, 1] rfl) (hD.sub [0, 1] (by decide) rfl) hS (lv_sub hl [2, 1, 0] rfl)
theorem c_X0_hiddenCells (l : Launch) (D : va_G) (cI : ClassId) (zh za : Nat) (sz : Nat) (cc : Int32) (ac : Int32) (fc : Int32) (lc : Int32) (f : Nat → Int32) : Met l yX0_hiddenCells wsX0_hiddenCells ({ frames := 2, cells := 0, slots := 0, locals := 51 } : Room) (ff_Pc D [(cI, .int)] [.ref zh] ([(zh, .inr (0, [.ref za, .int cc, .int ac, .int fc, .int lc])), (za, .inl (cI, 10, .inl f))] : va_W) sz) (va_Qi (fun (r : Int32) (u : Unit) => r = zhi cc ac fc lc f) (fun (u : Unit) t => ff_B D [(cI, .int)] (va_A ([(zh, .inr (0, [.ref za, .int cc, .int ac, .int fc, .int lc])), (za, .inl (cI, 10, .inl f))] : va_W) sz) [(zh, .inr (0, [.ref za, .int cc, .int ac, .int fc, .int lc])), (za, .inl (cI, 10, .inl f))] t) (va_A ([(zh, .inr (0, [.ref za, .int cc, .int ac, .int fc, .int lc])), (za, .inl (cI, 10, .inl f))] : va_W) sz)) 0 0 (va_A ([(zh, .inr (0, [.ref za, .int cc, .int ac, .int fc, .int lc])), (za, .inl (cI, 10, .inl f))] : va_W) sz) :=
  a_X0_hiddenCells l D cI zh za sz cc ac fc lc f _ (I_X0_hiddenCells_4 cc ac fc lc f) (mu_X0_hiddenCells_4 cc ac fc lc f) (I_X0_hiddenCells_19 cc ac fc lc f) (mu_X0_hiddenCells_19 cc ac fc lc f) (pl_X0_hiddenCells_4 cc ac fc lc f) (pl_X0_hiddenCells_19 cc ac fc lc f) (pe_X0_hiddenCells cc ac fc lc f)
set_option maxHeartbeats 4000000 in
set_option maxRecDepth 100000 in
theorem a_X0_isShape (l : Launch) (D : va_G) (cI : ClassId) (zh za : Nat) (sz : Nat) (cc : Int32) (ac : Int32) (fc : Int32) (lc : Int32) (f : Nat → Int32) (p1 : Int32) (p2 : Int32) (P : Int32 → Unit → Prop)  (he : ve_X0_isShape cc ac fc lc f p1 p2 P ) : Met l yX0_isShape wsX0_isShape ({ frames := 2, cells := 0, slots := 0, locals := 51 } : Room) (ff_Pc D [(cI, .int)] [.ref zh, .int p1, .int p2] ([(zh, .inr (0, [.ref za, .int cc, .int ac, .int fc, .int lc])), (za, .inl (cI, 10, .inl f))] : va_W) sz) (va_Qi P (fun (u : Unit) t => ff_B D [(cI, .int)] (va_A ([(zh, .inr (0, [.ref za, .int cc, .int ac, .int fc, .int lc])), (za, .inl (cI, 10, .inl f))] : va_W) sz) [(zh, .inr (0, [.ref za, .int cc, .int ac, .int fc, .int lc])), (za, .inl (cI, 10, .inl f))] t) (va_A ([(zh, .inr (0, [.ref za, .int cc, .int ac, .int fc, .int lc])), (za, .inl (cI, 10, .inl f))] : va_W) sz)) 0 0 (va_A ([(zh, .inr (0, [.ref za, .int cc, .int ac, .int fc, .int lc])), (za, .inl (cI, 10, .inl f))] : va_W) sz) := by
  refine ff_metZ (Wf := (fun (u : Unit) => ([(zh, .inr (0, [.ref za, .int cc, .int ac, .int fc, .int lc])), (za, .inl (cI, 10, .inl f))] : va_W))) (by decide +kernel) rfl (Nat.le_of_ble_eq_true rfl) ?_
  intro p e s m args below meth c A Q ls H hx hb hml hown hts hN hA hK hP hD hS hret hl
  have h := he
  unfold ve_X0_isShape at h
  have hl : lv_has ls 3 [(0, .ref zh), (1, .int p1), (2, .int p2)] := hl
  refine lv_iload_n hx hb dX0_isShape_0 rfl (lv_at hl 1 rfl) ?_
  have hPc := hP.sub (ws' := []) [] rfl
  have hDc := hD.sub (ws' := []) [] (by decide) rfl
  refine ff_callI (va_runS (As := [.int p1]) (rest := []) ⟨hx, hb, hml, hown, hts⟩ (c_J6_bitCount_0f7a4 l D cI H.size p1) (va_cwS 1 hts gX0_isShape_J6_bitCount_0f7a4 rfl rfl rfl (by decide +kernel) ⟨Nat.le_of_ble_eq_true rfl, Nat.le_of_ble_eq_true rfl⟩) (ff_preS hPc hK hDc hN) rfl rfl hl.1 rfl (lv_room (Nat.le_of_ble_eq_true rfl)) dX0_isShape_1 ⟨Nat.le_of_ble_eq_true rfl, Nat.le_of_ble_eq_true rfl⟩) hP hD hS hA [] [0, 1] (wr := [(zh, .inr (0, [.ref za, .int cc, .int ac, .int fc, .int lc])), (za, .inl (cI, 10, .inl f))]) rfl rfl (by decide) (by decide) (fun r u H locs hw hP hD hS => ?_)
  replace hw := hw.symm
  subst hw
  have hP : va_P D vwCl [(zh, .inr (0, [.ref za, .int cc, .int ac, .int fc, .int lc])), (za, .inl (cI, 10, .inl f))] H := hP
  have hD : va_D A [(zh, .inr (0, [.ref za, .int cc, .int ac, .int fc, .int lc])), (za, .inl (cI, 10, .inl f))] := hD
  refine lv_iload_n hx hb dX0_isShape_4 rfl (lv_at hl 2 rfl) ?_
  refine lv_icmp_ne (tgt := 45) hx hb dX0_isShape_5 (by decide) (fun c_1 => ?_) (fun c_1 => ?_)
  · have h := h.2 c_1
    refine lv_iconst (v := 0) hx hb dX0_isShape_45 (by decide) ?_
    exact hret 0 () _ _ _ _ _ _ (by decide) h (hP.sub [0, 1] rfl) (hD.sub [0, 1] (by decide) rfl) hS (Nat.le_of_ble_eq_true rfl) (Nat.le_of_ble_eq_true rfl) dX0_isShape_46
  · have h := h.1 c_1
    refine lv_aload_n hx hb dX0_isShape_8 rfl (lv_at hl 0 rfl) ?_
    refine lv_iload_n hx hb dX0_isShape_9 rfl (lv_at hl 1 rfl) ?_
    have hPc := hP.sub (ws' := [(zh, .inr (0, [.ref za, .int cc, .int ac, .int fc, .int lc])), (za, .inl (cI, 10, .inl f))]) [0, 1] rfl
    have hDc := hD.sub (ws' := [(zh, .inr (0, [.ref za, .int cc, .int ac, .int fc, .int lc])), (za, .inl (cI, 10, .inl f))]) [0, 1] (by decide) rfl
    refine ff_callI (va_runV (As := [.int p1]) (rest := []) ⟨hx, hb, hml, hown, hts⟩ (c_X0_beside l D cI zh za H.size cc ac fc lc f p1) (cwV 1 hts gX0_isShape_X0_beside rfl rfl rfl (by decide +kernel) ⟨Nat.le_of_ble_eq_true rfl, Nat.le_of_ble_eq_true rfl⟩) (ff_preV (q := (RX0, TX0, 5)) (ci := 0) (q0 := 0) hPc hK hDc hN rfl rfl) rfl rfl hl.1 rfl (lv_room (Nat.le_of_ble_eq_true rfl)) dX0_isShape_10 ⟨Nat.le_of_ble_eq_true rfl, Nat.le_of_ble_eq_true rfl⟩) hP hD hS hA [0, 1] [] (wr := []) rfl rfl (by decide) (by decide) (fun r u H locs hw hP hD hS => ?_)
    replace hw := hw.symm
    subst hw
    have hP : va_P D vwCl [(zh, .inr (0, [.ref za, .int cc, .int ac, .int fc, .int lc])), (za, .inl (cI, 10, .inl f))] H := hP
    have hD : va_D A [(zh, .inr (0, [.ref za, .int cc, .int ac, .int fc, .int lc])), (za, .inl (cI, 10, .inl f))] := hD
    refine lv_iload_n hx hb dX0_isShape_13 rfl (lv_at hl 1 rfl) ?_
    refine lv_iconst (v := (-1)) hx hb dX0_isShape_14 (by decide) ?_
    refine lv_ixor hx hb dX0_isShape_15 ?_
    refine lv_iand hx hb dX0_isShape_16 ?_
    refine lv_aload_n hx hb dX0_isShape_17 rfl (lv_at hl 0 rfl) ?_
    refine lv_iload_n hx hb dX0_isShape_18 rfl (lv_at hl 2 rfl) ?_
    have hPc := hP.sub (ws' := [(zh, .inr (0, [.ref za, .int cc, .int ac, .int fc, .int lc])), (za, .inl (cI, 10, .inl f))]) [0, 1] rfl
    have hDc := hD.sub (ws' := [(zh, .inr (0, [.ref za, .int cc, .int ac, .int fc, .int lc])), (za, .inl (cI, 10, .inl f))]) [0, 1] (by decide) rfl
    refine ff_callI (va_runV (As := [.int p2]) (rest := [.int ((zbs cc ac fc lc p1) &&& (p1 ^^^ (-1)))]) ⟨hx, hb, hml, hown, hts⟩ (c_X0_cellsWith l D cI zh za H.size cc ac fc lc f p2) (cwV 1 hts gX0_isShape_X0_cellsWith rfl rfl rfl (by decide +kernel) ⟨Nat.le_of_ble_eq_true rfl, Nat.le_of_ble_eq_true rfl⟩) (ff_preV (q := (RX0, TX0, 5)) (ci := 0) (q0 := 0) hPc hK hDc hN rfl rfl) rfl rfl hl.1 rfl (lv_room (Nat.le_of_ble_eq_true rfl)) dX0_isShape_19 ⟨Nat.le_of_ble_eq_true rfl, Nat.le_of_ble_eq_true rfl⟩) hP hD hS hA [0, 1] [] (wr := []) rfl rfl (by decide) (by decide) (fun r u H locs hw hP hD hS => ?_)
    replace hw := hw.symm
    subst hw
    have hP : va_P D vwCl [(zh, .inr (0, [.ref za, .int cc, .int ac, .int fc, .int lc])), (za, .inl (cI, 10, .inl f))] H := hP
    have hD : va_D A [(zh, .inr (0, [.ref za, .int cc, .int ac, .int fc, .int lc])), (za, .inl (cI, 10, .inl f))] := hD
    refine lv_iand hx hb dX0_isShape_22 ?_
    refine lv_if_ne (tgt := 45) hx hb dX0_isShape_23 (by decide) (fun c_2 => ?_) (fun c_2 => ?_)
    · have h := h.2 c_2
      refine lv_iconst (v := 0) hx hb dX0_isShape_45 (by decide) ?_
      exact hret 0 () _ _ _ _ _ _ (by decide) h (hP.sub [0, 1] rfl) (hD.sub [0, 1] (by decide) rfl) hS (Nat.le_of_ble_eq_true rfl) (Nat.le_of_ble_eq_true rfl) dX0_isShape_46
    · have h := h.1 c_2
      refine lv_aload_n hx hb dX0_isShape_26 rfl (lv_at hl 0 rfl) ?_
      refine lv_iload_n hx hb dX0_isShape_27 rfl (lv_at hl 1 rfl) ?_
      have hPc := hP.sub (ws' := []) [] rfl
      have hDc := hD.sub (ws' := []) [] (by decide) rfl
      refine ff_callI (va_runS (As := [.int p1]) (rest := [.ref zh]) ⟨hx, hb, hml, hown, hts⟩ (c_X0_lowest l D cI H.size p1) (va_cwS 1 hts gX0_isShape_X0_lowest rfl rfl rfl (by decide +kernel) ⟨Nat.le_of_ble_eq_true rfl, Nat.le_of_ble_eq_true rfl⟩) (ff_preS hPc hK hDc hN) rfl rfl hl.1 rfl (lv_room (Nat.le_of_ble_eq_true rfl)) dX0_isShape_28 ⟨Nat.le_of_ble_eq_true rfl, Nat.le_of_ble_eq_true rfl⟩) hP hD hS hA [] [0, 1] (wr := [(zh, .inr (0, [.ref za, .int cc, .int ac, .int fc, .int lc])), (za, .inl (cI, 10, .inl f))]) rfl rfl (by decide) (by decide) (fun r u H locs hw hP hD hS => ?_)
      replace hw := hw.symm
      subst hw
      have hP : va_P D vwCl [(zh, .inr (0, [.ref za, .int cc, .int ac, .int fc, .int lc])), (za, .inl (cI, 10, .inl f))] H := hP
      have hD : va_D A [(zh, .inr (0, [.ref za, .int cc, .int ac, .int fc, .int lc])), (za, .inl (cI, 10, .inl f))] := hD
      refine lv_iload_n hx hb dX0_isShape_31 rfl (lv_at hl 1 rfl) ?_
      refine lv_bipush (v := 12) hx hb dX0_isShape_32 (by decide) ?_
      have hPc := hP.sub (ws' := [(zh, .inr (0, [.ref za, .int cc, .int ac, .int fc, .int lc])), (za, .inl (cI, 10, .inl f))]) [0, 1] rfl
      have hDc := hD.sub (ws' := [(zh, .inr (0, [.ref za, .int cc, .int ac, .int fc, .int lc])), (za, .inl (cI, 10, .inl f))]) [0, 1] (by decide) rfl
      refine ff_callI (va_runV (As := [.int (zlow p1), .int p1, .int 12]) (rest := []) ⟨hx, hb, hml, hown, hts⟩ (c_X0_spread l D cI zh za H.size cc ac fc lc f (zlow p1) p1 12) (cwV 3 hts gX0_isShape_X0_spread rfl rfl rfl (by decide +kernel) ⟨Nat.le_of_ble_eq_true rfl, Nat.le_of_ble_eq_true rfl⟩) (ff_preV (q := (RX0, TX0, 5)) (ci := 0) (q0 := 0) hPc hK hDc hN rfl rfl) rfl rfl hl.1 rfl (lv_room (Nat.le_of_ble_eq_true rfl)) dX0_isShape_34 ⟨Nat.le_of_ble_eq_true rfl, Nat.le_of_ble_eq_true rfl⟩) hP hD hS hA [0, 1] [] (wr := []) rfl rfl (by decide) (by decide) (fun r u H locs hw hP hD hS => ?_)
      replace hw := hw.symm
      subst hw
      have hP : va_P D vwCl [(zh, .inr (0, [.ref za, .int cc, .int ac, .int fc, .int lc])), (za, .inl (cI, 10, .inl f))] H := hP
      have hD : va_D A [(zh, .inr (0, [.ref za, .int cc, .int ac, .int fc, .int lc])), (za, .inl (cI, 10, .inl f))] := hD
      refine lv_iload_n hx hb dX0_isShape_37 rfl (lv_at hl 1 rfl) ?_
      refine lv_icmp_ne (tgt := 45) hx hb dX0_isShape_38 (by decide) (fun c_3 => ?_) (fun c_3 => ?_)
      · have h := h.2 c_3
        refine lv_iconst (v := 0) hx hb dX0_isShape_45 (by decide) ?_
        exact hret 0 () _ _ _ _ _ _ (by decide) h (hP.sub [0, 1] rfl) (hD.sub [0, 1] (by decide) rfl) hS (Nat.le_of_ble_eq_true rfl) (Nat.le_of_ble_eq_true rfl) dX0_isShape_46
      · have h := h.1 c_3
        refine lv_iconst (v := 1) hx hb dX0_isShape_41 (by decide) ?_
        refine lv_goto (tgt := 46) hx hb dX0_isShape_42 (by decide) ?_
        exact hret 1 () _ _ _ _ _ _ (by decide) h (hP.sub [0, 1] rfl) (hD.sub [0, 1] (by decide) rfl) hS (Nat.le_of_ble_eq_true rfl) (Nat.le_of_ble_eq_true rfl) dX0_isShape_46
theorem c_X0_isShape (l : Launch) (D : va_G) (cI : ClassId) (zh za : Nat) (sz : Nat) (cc : Int32) (ac : Int32) (fc : Int32) (lc : Int32) (f : Nat → Int32) (p1 : Int32) (p2 : Int32) : Met l yX0_isShape wsX0_isShape ({ frames := 2, cells := 0, slots := 0, locals := 51 } : Room) (ff_Pc D [(cI, .int)] [.ref zh, .int p1, .int p2] ([(zh, .inr (0, [.ref za, .int cc, .int ac, .int fc, .int lc])), (za, .inl (cI, 10, .inl f))] : va_W) sz) (va_Qi (fun (r : Int32) (u : Unit) => r = b2i (zsh cc ac fc lc f p1 p2)) (fun (u : Unit) t => ff_B D [(cI, .int)] (va_A ([(zh, .inr (0, [.ref za, .int cc, .int ac, .int fc, .int lc])), (za, .inl (cI, 10, .inl f))] : va_W) sz) [(zh, .inr (0, [.ref za, .int cc, .int ac, .int fc, .int lc])), (za, .inl (cI, 10, .inl f))] t) (va_A ([(zh, .inr (0, [.ref za, .int cc, .int ac, .int fc, .int lc])), (za, .inl (cI, 10, .inl f))] : va_W) sz)) 0 0 (va_A ([(zh, .inr (0, [.ref za, .int cc, .int ac, .int fc, .int lc])), (za, .inl (cI, 10, .inl f))] : va_W) sz) :=
  a_X0_isShape l D cI zh za sz cc ac fc lc f p1 p2 _  (pe_X0_isShape cc ac fc lc f p1 p2)
theorem kX0_empty_1 : (.fieldLink RX0 9 "FieldFiller$Board" "byNumber" "[I" : Cond) ∈ wsX0_empty := List.mem_of_getElem? (i := 1) rfl
theorem nX0_empty_wsX00 : ∀ w ∈ wsX00, w ∈ wsX0_empty := (fun w h => List.mem_cons_of_mem _ (List.mem_append_right _ h))
theorem kX0_empty_2 : (.fieldLink RX0 27 "FieldFiller$Board" "allCells" "I" : Cond) ∈ wsX0_empty := List.mem_of_getElem? (i := 2) rfl
set_option maxHeartbeats 4000000 in
set_option maxRecDepth 100000 in
theorem a_X0_empty (l : Launch) (D : va_G) (cI : ClassId) (zh za : Nat) (sz : Nat) (cc : Int32) (ac : Int32) (fc : Int32) (lc : Int32) (f : Nat → Int32) (P : ((Nat → Int32)) → Prop) (I2 : Int32 → (Nat → Int32) → Prop) (mu2 : Int32 → (Nat → Int32) → Nat) (hv2 : ∀ (x1 : Int32) (f' : Nat → Int32), I2 x1 f' → vs_X0_empty_2 cc ac fc lc f P (fun (x19 : Int32) (f9 : Nat → Int32) => I2 x19 f9 ∧ mu2 x19 f9 < mu2 x1 f') x1 f') (he : ve_X0_empty cc ac fc lc f P I2) : Met l yX0_empty wsX0_empty ({ frames := 0, cells := 0, slots := 0, locals := 0 } : Room) (ff_Pc D [(cI, .int)] [.ref zh] ([(zh, .inr (0, [.ref za, .int cc, .int ac, .int fc, .int lc])), (za, .inl (cI, 10, .inl f))] : va_W) sz) (va_Qv P (fun (u : (Nat → Int32)) t => ff_B D [(cI, .int)] (va_A ([(zh, .inr (0, [.ref za, .int cc, .int ac, .int fc, .int lc])), (za, .inl (cI, 10, .inl f))] : va_W) sz) [(zh, .inr (0, [.ref za, .int cc, .int ac, .int fc, .int lc])), (za, .inl (cI, 10, .inl u))] t) (va_A ([(zh, .inr (0, [.ref za, .int cc, .int ac, .int fc, .int lc])), (za, .inl (cI, 10, .inl f))] : va_W) sz)) 0 0 (va_A ([(zh, .inr (0, [.ref za, .int cc, .int ac, .int fc, .int lc])), (za, .inl (cI, 10, .inl f))] : va_W) sz) := by
  refine ff_metV (Wf := (fun (u : (Nat → Int32)) => ([(zh, .inr (0, [.ref za, .int cc, .int ac, .int fc, .int lc])), (za, .inl (cI, 10, .inl u))] : va_W))) (by decide +kernel) rfl (Nat.le_of_ble_eq_true rfl) ?_
  intro p e s m args below meth c A Q ls H hx hb hml hown hin hts hN hA hK hP hD hS hret hl
  have L2 : ∀ (N : Nat) (x1 : Int32) (f' : Nat → Int32) (H : Heap) (locs : List Loc) (ls : Array Slot), I2 x1 f' → mu2 x1 f' < N → va_P D vwCl [(zh, .inr (0, [.ref za, .int cc, .int ac, .int fc, .int lc])), (za, .inl (cI, 10, .inl f'))] H → va_D A [(zh, .inr (0, [.ref za, .int cc, .int ac, .int fc, .int lc])), (za, .inl (cI, 10, .inl f'))] → va_S A s.heap H locs → lv_has ls 2 [(0, .ref zh), (1, .int x1)] → W p l e ({ frames := 0, cells := 0, slots := 0, locals := 0 } : Room) s m args below meth c H locs 0 0 Q (F0 m 2 ls []) := by
    intro N
    induction N with
    | zero => intros; rename_i hz _ _ _ _; exact absurd hz (Nat.not_lt_zero _)
    | succ N ih =>
      intro x1 f' H locs ls hI hmu hP hD hS hl
      have h := hv2 x1 f' hI
      unfold vs_X0_empty_2 at h
      refine lv_iload_n hx hb dX0_empty_2 rfl (lv_at hl 1 rfl) ?_
      refine lv_aload_n hx hb dX0_empty_3 rfl (lv_at hl 0 rfl) ?_
      refine va_get (D := D) (ci := 0) (v := .ref za) (C := RX0) (T := TX0) (N := 5) hx hb hts nX0_empty_wsX00 hown hK hP 0 rfl rfl 0 (by decide) (hts _ kX0_empty_1) (fun _ h9 => h9) rfl dX0_empty_4 ?_
      refine va_alen hx hb hK hP 1 0 rfl rfl (v := 10) rfl dX0_empty_7 ?_
      refine lv_icmp_ge (tgt := 35) hx hb dX0_empty_8 (by decide) (fun c_1 => ?_) (fun c_1 => ?_)
      · have h := h.1 c_1
        exact hret (f') _ _ _ _ _ _ h (hP.sub [0, 1] rfl) (hD.sub [0, 1] (by decide) rfl) hS (Nat.le_of_ble_eq_true rfl) (Nat.le_of_ble_eq_true rfl) dX0_empty_35
      · have h := h.2 c_1
        refine lv_aload_n hx hb dX0_empty_11 rfl (lv_at hl 0 rfl) ?_
        refine va_get (D := D) (ci := 0) (v := .ref za) (C := RX0) (T := TX0) (N := 5) hx hb hts nX0_empty_wsX00 hown hK hP 0 rfl rfl 0 (by decide) (hts _ kX0_empty_1) (fun _ h9 => h9) rfl dX0_empty_12 ?_
        refine lv_iload_n hx hb dX0_empty_15 rfl (lv_at hl 1 rfl) ?_
        refine lv_iload_n hx hb dX0_empty_16 rfl (lv_at hl 1 rfl) ?_
        refine lv_if_ne (tgt := 27) hx hb dX0_empty_17 (by decide) (fun c_2 => ?_) (fun c_2 => ?_)
        · have h := h.2 c_2
          refine lv_iconst (v := 0) hx hb dX0_empty_27 (by decide) ?_
          obtain ⟨i_3, h⟩ := h
          refine va_iast hx hb hK hP hD hS 1 0 rfl rfl i_3 dX0_empty_28 (fun H locs hP hD hS => ?_)
          have hP : va_P D vwCl [(zh, .inr (0, [.ref za, .int cc, .int ac, .int fc, .int lc])), (za, .inl (cI, 10, .inl (upd f' x1.toNatClampNeg 0)))] H := hP
          have hD : va_D A [(zh, .inr (0, [.ref za, .int cc, .int ac, .int fc, .int lc])), (za, .inl (cI, 10, .inl (upd f' x1.toNatClampNeg 0)))] := hD
          obtain ⟨y_4, ey_4⟩ : ∃ y : Int32, y = x1 + 1 := ⟨_, rfl⟩
          have h := h y_4 ey_4
          refine lv_iinc (v := y_4) (lv' := [(1, .int y_4), (0, .ref zh)]) hx hb dX0_empty_29 hl (k := 1) rfl (by rw [ey_4]; rfl) (by decide) rfl (fun ls hl => ?_)
          refine lv_goto (tgt := 2) hx hb dX0_empty_32 (by decide) ?_
          exact ih _ _ _ _ _ h.1 (Nat.lt_of_lt_of_le h.2 (Nat.le_of_lt_succ hmu)) (hP.sub [0, 1] rfl) (hD.sub [0, 1] (by decide) rfl) hS (lv_sub hl [1, 0] rfl)
        · have h := h.1 c_2
          refine lv_aload_n hx hb dX0_empty_20 rfl (lv_at hl 0 rfl) ?_
          refine va_get (D := D) (ci := 0) (v := .int ac) (C := RX0) (T := TX0) (N := 5) hx hb hts nX0_empty_wsX00 hown hK hP 0 rfl rfl 2 (by decide) (hts _ kX0_empty_2) (fun _ h9 => h9) rfl dX0_empty_21 ?_
          refine lv_goto (tgt := 28) hx hb dX0_empty_24 (by decide) ?_
          obtain ⟨i_5, h⟩ := h
          refine va_iast hx hb hK hP hD hS 1 0 rfl rfl i_5 dX0_empty_28 (fun H locs hP hD hS => ?_)
          have hP : va_P D vwCl [(zh, .inr (0, [.ref za, .int cc, .int ac, .int fc, .int lc])), (za, .inl (cI, 10, .inl (upd f' x1.toNatClampNeg ac)))] H := hP
          have hD : va_D A [(zh, .inr (0, [.ref za, .int cc, .int ac, .int fc, .int lc])), (za, .inl (cI, 10, .inl (upd f' x1.toNatClampNeg ac)))] := hD
          obtain ⟨y_6, ey_6⟩ : ∃ y : Int32, y = x1 + 1 := ⟨_, rfl⟩
          have h := h y_6 ey_6
          refine lv_iinc (v := y_6) (lv' := [(1, .int y_6), (0, .ref zh)]) hx hb dX0_empty_29 hl (k := 1) rfl (by rw [ey_6]; rfl) (by decide) rfl (fun ls hl => ?_)
          refine lv_goto (tgt := 2) hx hb dX0_empty_32 (by decide) ?_
          exact ih _ _ _ _ _ h.1 (Nat.lt_of_lt_of_le h.2 (Nat.le_of_lt_succ hmu)) (hP.sub [0, 1] rfl) (hD.sub [0, 1] (by decide) rfl) hS (lv_sub hl [1, 0] rfl)
  have h := he
  unfold ve_X0_empty at h
  have hl : lv_has ls 2 [(0, .ref zh)] := hl
  refine lv_iconst (v := 0) hx hb dX0_empty_0 (by decide) ?_
  refine lv_istore_n (lv' := [(1, .int 0), (0, .ref zh)]) hx hb dX0_empty_1 rfl hl (by decide) rfl (fun ls hl => ?_)
  exact L2 _ _ _ _ _ _ h (Nat.lt_succ_self _) (hP.sub [0, 1] rfl) (hD.sub [0, 1] (by decide) rfl) hS (lv_sub hl [1, 0] rfl)
theorem c_X0_empty (l : Launch) (D : va_G) (cI : ClassId) (zh za : Nat) (sz : Nat) (cc : Int32) (ac : Int32) (fc : Int32) (lc : Int32) (f : Nat → Int32) : Met l yX0_empty wsX0_empty ({ frames := 0, cells := 0, slots := 0, locals := 0 } : Room) (ff_Pc D [(cI, .int)] [.ref zh] ([(zh, .inr (0, [.ref za, .int cc, .int ac, .int fc, .int lc])), (za, .inl (cI, 10, .inl f))] : va_W) sz) (va_Qv (fun (u : (Nat → Int32)) => u = (zem f ac)) (fun (u : (Nat → Int32)) t => ff_B D [(cI, .int)] (va_A ([(zh, .inr (0, [.ref za, .int cc, .int ac, .int fc, .int lc])), (za, .inl (cI, 10, .inl f))] : va_W) sz) [(zh, .inr (0, [.ref za, .int cc, .int ac, .int fc, .int lc])), (za, .inl (cI, 10, .inl u))] t) (va_A ([(zh, .inr (0, [.ref za, .int cc, .int ac, .int fc, .int lc])), (za, .inl (cI, 10, .inl f))] : va_W) sz)) 0 0 (va_A ([(zh, .inr (0, [.ref za, .int cc, .int ac, .int fc, .int lc])), (za, .inl (cI, 10, .inl f))] : va_W) sz) :=
  a_X0_empty l D cI zh za sz cc ac fc lc f _ (I_X0_empty_2 cc ac fc lc f) (mu_X0_empty_2 cc ac fc lc f) (pl_X0_empty_2 cc ac fc lc f) (pe_X0_empty cc ac fc lc f)
theorem kX0_layOut_3 : (.fieldLink RX0 30 "FieldFiller$Board" "firstColumn" "I" : Cond) ∈ wsX0_layOut := List.mem_of_getElem? (i := 3) rfl
theorem nX0_layOut_wsX00 : ∀ w ∈ wsX00, w ∈ wsX0_layOut := (fun w h => List.mem_cons_of_mem _ (List.mem_append_right _ h))
theorem kX0_layOut_4 : (.fieldLink RX0 33 "FieldFiller$Board" "lastColumn" "I" : Cond) ∈ wsX0_layOut := List.mem_of_getElem? (i := 4) rfl
theorem kX0_layOut_1 : (.fieldLink RX0 19 "FieldFiller$Board" "columnCount" "I" : Cond) ∈ wsX0_layOut := List.mem_of_getElem? (i := 1) rfl
theorem kX0_layOut_2 : (.fieldLink RX0 27 "FieldFiller$Board" "allCells" "I" : Cond) ∈ wsX0_layOut := List.mem_of_getElem? (i := 2) rfl
set_option maxHeartbeats 4000000 in
set_option maxRecDepth 100000 in
theorem a_X0_layOut (l : Launch) (D : va_G) (cI : ClassId) (zh za : Nat) (sz : Nat) (cc : Int32) (ac : Int32) (fc : Int32) (lc : Int32) (f : Nat → Int32) (p1 : Int32) (p2 : Int32) (P : (Int32 × Int32 × Int32 × Int32 × (Nat → Int32)) → Prop) (I24 : Int32 → Int32 → Int32 → Int32 → Int32 → (Nat → Int32) → Prop) (mu24 : Int32 → Int32 → Int32 → Int32 → Int32 → (Nat → Int32) → Nat) (hv24 : ∀ (x3 : Int32) (cc' : Int32) (ac' : Int32) (fc' : Int32) (lc' : Int32) (f' : Nat → Int32), I24 x3 cc' ac' fc' lc' f' → vs_X0_layOut_24 cc ac fc lc f p1 p2 P (fun (x39 : Int32) (cc9 : Int32) (ac9 : Int32) (fc9 : Int32) (lc9 : Int32) (f9 : Nat → Int32) => I24 x39 cc9 ac9 fc9 lc9 f9 ∧ mu24 x39 cc9 ac9 fc9 lc9 f9 < mu24 x3 cc' ac' fc' lc' f') x3 cc' ac' fc' lc' f') (he : ve_X0_layOut cc ac fc lc f p1 p2 P I24) : Met l yX0_layOut wsX0_layOut ({ frames := 1, cells := 0, slots := 0, locals := 21 } : Room) (ff_Pc D [(cI, .int)] [.ref zh, .int p1, .int p2] ([(zh, .inr (0, [.ref za, .int cc, .int ac, .int fc, .int lc])), (za, .inl (cI, 10, .inl f))] : va_W) sz) (va_Qv P (fun (u : Int32 × Int32 × Int32 × Int32 × (Nat → Int32)) t => ff_B D [(cI, .int)] (va_A ([(zh, .inr (0, [.ref za, .int cc, .int ac, .int fc, .int lc])), (za, .inl (cI, 10, .inl f))] : va_W) sz) [(zh, .inr (0, [.ref za, .int (u.1), .int (u.2.1), .int (u.2.2.1), .int (u.2.2.2.1)])), (za, .inl (cI, 10, .inl (u.2.2.2.2)))] t) (va_A ([(zh, .inr (0, [.ref za, .int cc, .int ac, .int fc, .int lc])), (za, .inl (cI, 10, .inl f))] : va_W) sz)) 0 0 (va_A ([(zh, .inr (0, [.ref za, .int cc, .int ac, .int fc, .int lc])), (za, .inl (cI, 10, .inl f))] : va_W) sz) := by
  refine ff_metV (Wf := (fun (u : Int32 × Int32 × Int32 × Int32 × (Nat → Int32)) => ([(zh, .inr (0, [.ref za, .int (u.1), .int (u.2.1), .int (u.2.2.1), .int (u.2.2.2.1)])), (za, .inl (cI, 10, .inl (u.2.2.2.2)))] : va_W))) (by decide +kernel) rfl (Nat.le_of_ble_eq_true rfl) ?_
  intro p e s m args below meth c A Q ls H hx hb hml hown hin hts hN hA hK hP hD hS hret hl
  have L24 : ∀ (N : Nat) (x3 : Int32) (cc' : Int32) (ac' : Int32) (fc' : Int32) (lc' : Int32) (f' : Nat → Int32) (H : Heap) (locs : List Loc) (ls : Array Slot), I24 x3 cc' ac' fc' lc' f' → mu24 x3 cc' ac' fc' lc' f' < N → va_P D vwCl [(zh, .inr (0, [.ref za, .int cc', .int ac', .int fc', .int lc'])), (za, .inl (cI, 10, .inl f'))] H → va_D A [(zh, .inr (0, [.ref za, .int cc', .int ac', .int fc', .int lc'])), (za, .inl (cI, 10, .inl f'))] → va_S A s.heap H locs → lv_has ls 4 [(0, .ref zh), (1, .int p1), (2, .int p2), (3, .int x3)] → W p l e ({ frames := 1, cells := 0, slots := 0, locals := 21 } : Room) s m args below meth c H locs 0 0 Q (F0 m 24 ls []) := by
    intro N
    induction N with
    | zero => intros; rename_i hz _ _ _ _; exact absurd hz (Nat.not_lt_zero _)
    | succ N ih =>
      intro x3 cc' ac' fc' lc' f' H locs ls hI hmu hP hD hS hl
      have h := hv24 x3 cc' ac' fc' lc' f' hI
      unfold vs_X0_layOut_24 at h
      refine lv_iload_n hx hb dX0_layOut_24 rfl (lv_at hl 3 rfl) ?_
      refine lv_iload_n hx hb dX0_layOut_25 rfl (lv_at hl 1 rfl) ?_
      refine lv_icmp_ge (tgt := 50) hx hb dX0_layOut_26 (by decide) (fun c_1 => ?_) (fun c_1 => ?_)
      · have h := h.1 c_1
        refine lv_aload_n hx hb dX0_layOut_50 rfl (lv_at hl 0 rfl) ?_
        refine lv_aload_n hx hb dX0_layOut_51 rfl (lv_at hl 0 rfl) ?_
        refine va_get (D := D) (ci := 0) (v := .int fc') (C := RX0) (T := TX0) (N := 5) hx hb hts nX0_layOut_wsX00 hown hK hP 0 rfl rfl 3 (by decide) (hts _ kX0_layOut_3) (fun _ h9 => h9) rfl dX0_layOut_52 ?_
        refine lv_iload_n hx hb dX0_layOut_55 rfl (lv_at hl 2 rfl) ?_
        refine lv_iconst (v := 1) hx hb dX0_layOut_56 (by decide) ?_
        refine lv_isub hx hb dX0_layOut_57 ?_
        refine lv_ishl hx hb dX0_layOut_58 ?_
        refine va_put (D := D) (ci := 0) (v := .int (fc' <<< ((p2 - 1) &&& 31))) (ty := .int) (C := RX0) (T := TX0) (N := 5) hx hb hts nX0_layOut_wsX00 tyX0 tyX0_ok nmX0 hown hK hP hD hS 0 rfl rfl 4 (by decide) (hts _ kX0_layOut_4) (fun _ h9 => h9) rfl (by decide +kernel) rfl rfl (Nat.le_of_ble_eq_true rfl) dX0_layOut_59 (fun H locs hP hD hS => ?_)
        have hP : va_P D vwCl [(zh, .inr (0, [.ref za, .int cc', .int ac', .int fc', .int (fc' <<< ((p2 - 1) &&& 31))])), (za, .inl (cI, 10, .inl f'))] H := hP
        have hD : va_D A [(zh, .inr (0, [.ref za, .int cc', .int ac', .int fc', .int (fc' <<< ((p2 - 1) &&& 31))])), (za, .inl (cI, 10, .inl f'))] := hD
        refine lv_aload_n hx hb dX0_layOut_62 rfl (lv_at hl 0 rfl) ?_
        have hPc := hP.sub (ws' := [(zh, .inr (0, [.ref za, .int cc', .int ac', .int fc', .int (fc' <<< ((p2 - 1) &&& 31))])), (za, .inl (cI, 10, .inl f'))]) [0, 1] rfl
        have hDc := hD.sub (ws' := [(zh, .inr (0, [.ref za, .int cc', .int ac', .int fc', .int (fc' <<< ((p2 - 1) &&& 31))])), (za, .inl (cI, 10, .inl f'))]) [0, 1] (by decide) rfl
        refine ff_callV (va_runV (As := []) (rest := []) ⟨hx, hb, hml, hown, hts⟩ (c_X0_empty l D cI zh za H.size cc' ac' fc' (fc' <<< ((p2 - 1) &&& 31)) f') (cwV 0 hts gX0_layOut_X0_empty rfl rfl rfl (by decide +kernel) ⟨Nat.le_of_ble_eq_true rfl, Nat.le_of_ble_eq_true rfl⟩) (ff_preV (q := (RX0, TX0, 5)) (ci := 0) (q0 := 0) hPc hK hDc hN rfl rfl) rfl rfl hl.1 rfl (lv_room (Nat.le_of_ble_eq_true rfl)) dX0_layOut_63 ⟨Nat.le_of_ble_eq_true rfl, Nat.le_of_ble_eq_true rfl⟩) hP hD hS hA [0, 1] [] (wr := []) rfl rfl (by decide) (by decide) (fun u H locs hw hP hD hS => ?_)
        replace hw := hw.symm
        subst hw
        have hP : va_P D vwCl [(zh, .inr (0, [.ref za, .int cc', .int ac', .int fc', .int (fc' <<< ((p2 - 1) &&& 31))])), (za, .inl (cI, 10, .inl (zem f' ac')))] H := hP
        have hD : va_D A [(zh, .inr (0, [.ref za, .int cc', .int ac', .int fc', .int (fc' <<< ((p2 - 1) &&& 31))])), (za, .inl (cI, 10, .inl (zem f' ac')))] := hD
        exact hret (cc', ac', fc', fc' <<< ((p2 - 1) &&& 31), zem f' ac') _ _ _ _ _ _ h (hP.sub [0, 1] rfl) (hD.sub [0, 1] (by decide) rfl) hS (Nat.le_of_ble_eq_true rfl) (Nat.le_of_ble_eq_true rfl) dX0_layOut_66
      · have h := h.2 c_1
        refine lv_aload_n hx hb dX0_layOut_29 rfl (lv_at hl 0 rfl) ?_
        refine lv_dup hx hb dX0_layOut_30 rfl ?_
        refine va_get (D := D) (ci := 0) (v := .int fc') (C := RX0) (T := TX0) (N := 5) hx hb hts nX0_layOut_wsX00 hown hK hP 0 rfl rfl 3 (by decide) (hts _ kX0_layOut_3) (fun _ h9 => h9) rfl dX0_layOut_31 ?_
        refine lv_iload_n hx hb dX0_layOut_34 rfl (lv_at hl 3 rfl) ?_
        refine lv_iload_n hx hb dX0_layOut_35 rfl (lv_at hl 2 rfl) ?_
        refine lv_imul hx hb dX0_layOut_36 ?_
        have hPc := hP.sub (ws' := []) [] rfl
        have hDc := hD.sub (ws' := []) [] (by decide) rfl
        refine ff_callI (va_runS (As := [.int (x3 * p2)]) (rest := [.int fc', .ref zh]) ⟨hx, hb, hml, hown, hts⟩ (c_X0_bit l D cI H.size (x3 * p2)) (va_cwS 1 hts gX0_layOut_X0_bit rfl rfl rfl (by decide +kernel) ⟨Nat.le_of_ble_eq_true rfl, Nat.le_of_ble_eq_true rfl⟩) (ff_preS hPc hK hDc hN) rfl rfl hl.1 rfl (lv_room (Nat.le_of_ble_eq_true rfl)) dX0_layOut_37 ⟨Nat.le_of_ble_eq_true rfl, Nat.le_of_ble_eq_true rfl⟩) hP hD hS hA [] [0, 1] (wr := [(zh, .inr (0, [.ref za, .int cc', .int ac', .int fc', .int lc'])), (za, .inl (cI, 10, .inl f'))]) rfl rfl (by decide) (by decide) (fun r u H locs hw hP hD hS => ?_)
        replace hw := hw.symm
        subst hw
        have hP : va_P D vwCl [(zh, .inr (0, [.ref za, .int cc', .int ac', .int fc', .int lc'])), (za, .inl (cI, 10, .inl f'))] H := hP
        have hD : va_D A [(zh, .inr (0, [.ref za, .int cc', .int ac', .int fc', .int lc'])), (za, .inl (cI, 10, .inl f'))] := hD
        refine lv_ior hx hb dX0_layOut_40 ?_
        refine va_put (D := D) (ci := 0) (v := .int (fc' ||| (zbit (x3 * p2)))) (ty := .int) (C := RX0) (T := TX0) (N := 5) hx hb hts nX0_layOut_wsX00 tyX0 tyX0_ok nmX0 hown hK hP hD hS 0 rfl rfl 3 (by decide) (hts _ kX0_layOut_3) (fun _ h9 => h9) rfl (by decide +kernel) rfl rfl (Nat.le_of_ble_eq_true rfl) dX0_layOut_41 (fun H locs hP hD hS => ?_)
        have hP : va_P D vwCl [(zh, .inr (0, [.ref za, .int cc', .int ac', .int (fc' ||| (zbit (x3 * p2))), .int lc'])), (za, .inl (cI, 10, .inl f'))] H := hP
        have hD : va_D A [(zh, .inr (0, [.ref za, .int cc', .int ac', .int (fc' ||| (zbit (x3 * p2))), .int lc'])), (za, .inl (cI, 10, .inl f'))] := hD
        obtain ⟨y_2, ey_2⟩ : ∃ y : Int32, y = x3 + 1 := ⟨_, rfl⟩
        have h := h y_2 ey_2
        refine lv_iinc (v := y_2) (lv' := [(3, .int y_2), (0, .ref zh), (1, .int p1), (2, .int p2)]) hx hb dX0_layOut_44 hl (k := 3) rfl (by rw [ey_2]; rfl) (by decide) rfl (fun ls hl => ?_)
        refine lv_goto (tgt := 24) hx hb dX0_layOut_47 (by decide) ?_
        exact ih _ _ _ _ _ _ _ _ _ h.1 (Nat.lt_of_lt_of_le h.2 (Nat.le_of_lt_succ hmu)) (hP.sub [0, 1] rfl) (hD.sub [0, 1] (by decide) rfl) hS (lv_sub hl [1, 2, 3, 0] rfl)
  have h := he
  unfold ve_X0_layOut at h
  have hl : lv_has ls 4 [(0, .ref zh), (1, .int p1), (2, .int p2)] := hl
  refine lv_aload_n hx hb dX0_layOut_0 rfl (lv_at hl 0 rfl) ?_
  refine lv_iload_n hx hb dX0_layOut_1 rfl (lv_at hl 2 rfl) ?_
  refine va_put (D := D) (ci := 0) (v := .int p2) (ty := .int) (C := RX0) (T := TX0) (N := 5) hx hb hts nX0_layOut_wsX00 tyX0 tyX0_ok nmX0 hown hK hP hD hS 0 rfl rfl 1 (by decide) (hts _ kX0_layOut_1) (fun _ h9 => h9) rfl (by decide +kernel) rfl rfl (Nat.le_of_ble_eq_true rfl) dX0_layOut_2 (fun H locs hP hD hS => ?_)
  have hP : va_P D vwCl [(zh, .inr (0, [.ref za, .int p2, .int ac, .int fc, .int lc])), (za, .inl (cI, 10, .inl f))] H := hP
  have hD : va_D A [(zh, .inr (0, [.ref za, .int p2, .int ac, .int fc, .int lc])), (za, .inl (cI, 10, .inl f))] := hD
  refine lv_aload_n hx hb dX0_layOut_5 rfl (lv_at hl 0 rfl) ?_
  refine lv_iload_n hx hb dX0_layOut_6 rfl (lv_at hl 1 rfl) ?_
  refine lv_iload_n hx hb dX0_layOut_7 rfl (lv_at hl 2 rfl) ?_
  refine lv_imul hx hb dX0_layOut_8 ?_
  have hPc := hP.sub (ws' := []) [] rfl
  have hDc := hD.sub (ws' := []) [] (by decide) rfl
  refine ff_callI (va_runS (As := [.int (p1 * p2)]) (rest := [.ref zh]) ⟨hx, hb, hml, hown, hts⟩ (c_X0_bit l D cI H.size (p1 * p2)) (va_cwS 1 hts gX0_layOut_X0_bit rfl rfl rfl (by decide +kernel) ⟨Nat.le_of_ble_eq_true rfl, Nat.le_of_ble_eq_true rfl⟩) (ff_preS hPc hK hDc hN) rfl rfl hl.1 rfl (lv_room (Nat.le_of_ble_eq_true rfl)) dX0_layOut_9 ⟨Nat.le_of_ble_eq_true rfl, Nat.le_of_ble_eq_true rfl⟩) hP hD hS hA [] [0, 1] (wr := [(zh, .inr (0, [.ref za, .int p2, .int ac, .int fc, .int lc])), (za, .inl (cI, 10, .inl f))]) rfl rfl (by decide) (by decide) (fun r u H locs hw hP hD hS => ?_)
  replace hw := hw.symm
  subst hw
  have hP : va_P D vwCl [(zh, .inr (0, [.ref za, .int p2, .int ac, .int fc, .int lc])), (za, .inl (cI, 10, .inl f))] H := hP
  have hD : va_D A [(zh, .inr (0, [.ref za, .int p2, .int ac, .int fc, .int lc])), (za, .inl (cI, 10, .inl f))] := hD
  refine lv_iconst (v := 1) hx hb dX0_layOut_12 (by decide) ?_
  refine lv_isub hx hb dX0_layOut_13 ?_
  refine va_put (D := D) (ci := 0) (v := .int ((zbit (p1 * p2)) - 1)) (ty := .int) (C := RX0) (T := TX0) (N := 5) hx hb hts nX0_layOut_wsX00 tyX0 tyX0_ok nmX0 hown hK hP hD hS 0 rfl rfl 2 (by decide) (hts _ kX0_layOut_2) (fun _ h9 => h9) rfl (by decide +kernel) rfl rfl (Nat.le_of_ble_eq_true rfl) dX0_layOut_14 (fun H locs hP hD hS => ?_)
  have hP : va_P D vwCl [(zh, .inr (0, [.ref za, .int p2, .int ((zbit (p1 * p2)) - 1), .int fc, .int lc])), (za, .inl (cI, 10, .inl f))] H := hP
  have hD : va_D A [(zh, .inr (0, [.ref za, .int p2, .int ((zbit (p1 * p2)) - 1), .int fc, .int lc])), (za, .inl (cI, 10, .inl f))] := hD
  refine lv_aload_n hx hb dX0_layOut_17 rfl (lv_at hl 0 rfl) ?_
  refine lv_iconst (v := 0) hx hb dX0_layOut_18 (by decide) ?_
  refine va_put (D := D) (ci := 0) (v := .int 0) (ty := .int) (C := RX0) (T := TX0) (N := 5) hx hb hts nX0_layOut_wsX00 tyX0 tyX0_ok nmX0 hown hK hP hD hS 0 rfl rfl 3 (by decide) (hts _ kX0_layOut_3) (fun _ h9 => h9) rfl (by decide +kernel) rfl rfl (Nat.le_of_ble_eq_true rfl) dX0_layOut_19 (fun H locs hP hD hS => ?_)
  have hP : va_P D vwCl [(zh, .inr (0, [.ref za, .int p2, .int ((zbit (p1 * p2)) - 1), .int 0, .int lc])), (za, .inl (cI, 10, .inl f))] H := hP
  have hD : va_D A [(zh, .inr (0, [.ref za, .int p2, .int ((zbit (p1 * p2)) - 1), .int 0, .int lc])), (za, .inl (cI, 10, .inl f))] := hD
  refine lv_iconst (v := 0) hx hb dX0_layOut_22 (by decide) ?_
  refine lv_istore_n (lv' := [(3, .int 0), (0, .ref zh), (1, .int p1), (2, .int p2)]) hx hb dX0_layOut_23 rfl hl (by decide) rfl (fun ls hl => ?_)
  exact L24 _ _ _ _ _ _ _ _ _ _ h (Nat.lt_succ_self _) (hP.sub [0, 1] rfl) (hD.sub [0, 1] (by decide) rfl) hS (lv_sub hl [1, 2, 3, 0] rfl)
theorem c_X0_layOut (l : Launch) (D : va_G) (cI : ClassId) (zh za : Nat) (sz : Nat) (cc : Int32) (ac : Int32) (fc : Int32) (lc : Int32) (f : Nat → Int32) (p1 : Int32) (p2 : Int32) : Met l yX0_layOut wsX0_layOut ({ frames := 1, cells := 0, slots := 0, locals := 21 } : Room) (ff_Pc D [(cI, .int)] [.ref zh, .int p1, .int p2] ([(zh, .inr (0, [.ref za, .int cc, .int ac, .int fc, .int lc])), (za, .inl (cI, 10, .inl f))] : va_W) sz) (va_Qv (fun (u : Int32 × Int32 × Int32 × Int32 × (Nat → Int32)) => u = (p2, zac p1 p2, zfc p2 (p1 : Int32).toNatClampNeg, zlc p2 (zfc p2 (p1 : Int32).toNatClampNeg), zem f (zac p1 p2))) (fun (u : Int32 × Int32 × Int32 × Int32 × (Nat → Int32)) t => ff_B D [(cI, .int)] (va_A ([(zh, .inr (0, [.ref za, .int cc, .int ac, .int fc, .int lc])), (za, .inl (cI, 10, .inl f))] : va_W) sz) [(zh, .inr (0, [.ref za, .int (u.1), .int (u.2.1), .int (u.2.2.1), .int (u.2.2.2.1)])), (za, .inl (cI, 10, .inl (u.2.2.2.2)))] t) (va_A ([(zh, .inr (0, [.ref za, .int cc, .int ac, .int fc, .int lc])), (za, .inl (cI, 10, .inl f))] : va_W) sz)) 0 0 (va_A ([(zh, .inr (0, [.ref za, .int cc, .int ac, .int fc, .int lc])), (za, .inl (cI, 10, .inl f))] : va_W) sz) :=
  a_X0_layOut l D cI zh za sz cc ac fc lc f p1 p2 _ (I_X0_layOut_24 cc ac fc lc f p1 p2) (mu_X0_layOut_24 cc ac fc lc f p1 p2) (pl_X0_layOut_24 cc ac fc lc f p1 p2) (pe_X0_layOut cc ac fc lc f p1 p2)
theorem kX0_copyFrom_5 : (.fieldLink RX0 9 "FieldFiller$Board" "byNumber" "[I" : Cond) ∈ wsX0_copyFrom := List.mem_of_getElem? (i := 5) rfl
theorem nX0_copyFrom_wsX00 : ∀ w ∈ wsX00, w ∈ wsX0_copyFrom := (fun w h => List.mem_cons_of_mem _ (List.mem_append_right _ h))
theorem kX0_copyFrom_1 : (.fieldLink RX0 19 "FieldFiller$Board" "columnCount" "I" : Cond) ∈ wsX0_copyFrom := List.mem_of_getElem? (i := 1) rfl
theorem kX0_copyFrom_2 : (.fieldLink RX0 27 "FieldFiller$Board" "allCells" "I" : Cond) ∈ wsX0_copyFrom := List.mem_of_getElem? (i := 2) rfl
theorem kX0_copyFrom_3 : (.fieldLink RX0 30 "FieldFiller$Board" "firstColumn" "I" : Cond) ∈ wsX0_copyFrom := List.mem_of_getElem? (i := 3) rfl
theorem kX0_copyFrom_4 : (.fieldLink RX0 33 "FieldFiller$Board" "lastColumn" "I" : Cond) ∈ wsX0_copyFrom := List.mem_of_getElem? (i := 4) rfl
set_option maxHeartbeats 4000000 in
set_option maxRecDepth 100000 in
theorem a_X0_copyFrom (l : Launch) (D : va_G) (cI : ClassId) (zh za oh oa : Nat) (sz : Nat) (cc : Int32) (ac : Int32) (fc : Int32) (lc : Int32) (f : Nat → Int32) (occ : Int32) (oac : Int32) (ofc : Int32) (olc : Int32) (of : Nat → Int32) (P : (Int32 × Int32 × Int32 × Int32 × (Nat → Int32)) → Prop) (I34 : Int32 → Int32 → Int32 → Int32 → Int32 → (Nat → Int32) → Prop) (mu34 : Int32 → Int32 → Int32 → Int32 → Int32 → (Nat → Int32) → Nat) (hv34 : ∀ (x2 : Int32) (cc' : Int32) (ac' : Int32) (fc' : Int32) (lc' : Int32) (f' : Nat → Int32), I34 x2 cc' ac' fc' lc' f' → vs_X0_copyFrom_34 cc ac fc lc f occ oac ofc olc of P (fun (x29 : Int32) (cc9 : Int32) (ac9 : Int32) (fc9 : Int32) (lc9 : Int32) (f9 : Nat → Int32) => I34 x29 cc9 ac9 fc9 lc9 f9 ∧ mu34 x29 cc9 ac9 fc9 lc9 f9 < mu34 x2 cc' ac' fc' lc' f') x2 cc' ac' fc' lc' f') (he : ve_X0_copyFrom cc ac fc lc f occ oac ofc olc of P I34) : Met l yX0_copyFrom wsX0_copyFrom ({ frames := 0, cells := 0, slots := 0, locals := 0 } : Room) (ff_Pc D [(cI, .int)] [.ref zh, .ref oh] ([(zh, .inr (0, [.ref za, .int cc, .int ac, .int fc, .int lc])), (za, .inl (cI, 10, .inl f)), (oh, .inr (0, [.ref oa, .int occ, .int oac, .int ofc, .int olc])), (oa, .inl (cI, 10, .inl of))] : va_W) sz) (va_Qv P (fun (u : Int32 × Int32 × Int32 × Int32 × (Nat → Int32)) t => ff_B D [(cI, .int)] (va_A ([(zh, .inr (0, [.ref za, .int cc, .int ac, .int fc, .int lc])), (za, .inl (cI, 10, .inl f)), (oh, .inr (0, [.ref oa, .int occ, .int oac, .int ofc, .int olc])), (oa, .inl (cI, 10, .inl of))] : va_W) sz) [(zh, .inr (0, [.ref za, .int (u.1), .int (u.2.1), .int (u.2.2.1), .int (u.2.2.2.1)])), (za, .inl (cI, 10, .inl (u.2.2.2.2))), (oh, .inr (0, [.ref oa, .int occ, .int oac, .int ofc, .int olc])), (oa, .inl (cI, 10, .inl of))] t) (va_A ([(zh, .inr (0, [.ref za, .int cc, .int ac, .int fc, .int lc])), (za, .inl (cI, 10, .inl f)), (oh, .inr (0, [.ref oa, .int occ, .int oac, .int ofc, .int olc])), (oa, .inl (cI, 10, .inl of))] : va_W) sz)) 0 0 (va_A ([(zh, .inr (0, [.ref za, .int cc, .int ac, .int fc, .int lc])), (za, .inl (cI, 10, .inl f)), (oh, .inr (0, [.ref oa, .int occ, .int oac, .int ofc, .int olc])), (oa, .inl (cI, 10, .inl of))] : va_W) sz) := by
  refine ff_metV (Wf := (fun (u : Int32 × Int32 × Int32 × Int32 × (Nat → Int32)) => ([(zh, .inr (0, [.ref za, .int (u.1), .int (u.2.1), .int (u.2.2.1), .int (u.2.2.2.1)])), (za, .inl (cI, 10, .inl (u.2.2.2.2))), (oh, .inr (0, [.ref oa, .int occ, .int oac, .int ofc, .int olc])), (oa, .inl (cI, 10, .inl of))] : va_W))) (by decide +kernel) rfl (Nat.le_of_ble_eq_true rfl) ?_
  intro p e s m args below meth c A Q ls H hx hb hml hown hin hts hN hA hK hP hD hS hret hl
  have L34 : ∀ (N : Nat) (x2 : Int32) (cc' : Int32) (ac' : Int32) (fc' : Int32) (lc' : Int32) (f' : Nat → Int32) (H : Heap) (locs : List Loc) (ls : Array Slot), I34 x2 cc' ac' fc' lc' f' → mu34 x2 cc' ac' fc' lc' f' < N → va_P D vwCl [(zh, .inr (0, [.ref za, .int cc', .int ac', .int fc', .int lc'])), (za, .inl (cI, 10, .inl f')), (oh, .inr (0, [.ref oa, .int occ, .int oac, .int ofc, .int olc])), (oa, .inl (cI, 10, .inl of))] H → va_D A [(zh, .inr (0, [.ref za, .int cc', .int ac', .int fc', .int lc'])), (za, .inl (cI, 10, .inl f')), (oh, .inr (0, [.ref oa, .int occ, .int oac, .int ofc, .int olc])), (oa, .inl (cI, 10, .inl of))] → va_S A s.heap H locs → lv_has ls 3 [(0, .ref zh), (1, .ref oh), (2, .int x2)] → W p l e ({ frames := 0, cells := 0, slots := 0, locals := 0 } : Room) s m args below meth c H locs 0 0 Q (F0 m 34 ls []) := by
    intro N
    induction N with
    | zero => intros; rename_i hz _ _ _ _; exact absurd hz (Nat.not_lt_zero _)
    | succ N ih =>
      intro x2 cc' ac' fc' lc' f' H locs ls hI hmu hP hD hS hl
      have h := hv34 x2 cc' ac' fc' lc' f' hI
      unfold vs_X0_copyFrom_34 at h
      refine lv_iload_n hx hb dX0_copyFrom_34 rfl (lv_at hl 2 rfl) ?_
      refine lv_aload_n hx hb dX0_copyFrom_35 rfl (lv_at hl 0 rfl) ?_
      refine va_get (D := D) (ci := 0) (v := .ref za) (C := RX0) (T := TX0) (N := 5) hx hb hts nX0_copyFrom_wsX00 hown hK hP 0 rfl rfl 0 (by decide) (hts _ kX0_copyFrom_5) (fun _ h9 => h9) rfl dX0_copyFrom_36 ?_
      refine va_alen hx hb hK hP 1 0 rfl rfl (v := 10) rfl dX0_copyFrom_39 ?_
      refine lv_icmp_ge (tgt := 70) hx hb dX0_copyFrom_40 (by decide) (fun c_1 => ?_) (fun c_1 => ?_)
      · have h := h.1 c_1
        exact hret (cc', ac', fc', lc', f') _ _ _ _ _ _ h (hP.sub [0, 1, 2, 3] rfl) (hD.sub [0, 1, 2, 3] (by decide) rfl) hS (Nat.le_of_ble_eq_true rfl) (Nat.le_of_ble_eq_true rfl) dX0_copyFrom_70
      · have h := h.2 c_1
        refine lv_iload_n hx hb dX0_copyFrom_43 rfl (lv_at hl 2 rfl) ?_
        refine lv_aload_n hx hb dX0_copyFrom_44 rfl (lv_at hl 1 rfl) ?_
        refine va_get (D := D) (ci := 0) (v := .ref oa) (C := RX0) (T := TX0) (N := 5) hx hb hts nX0_copyFrom_wsX00 hown hK hP 2 rfl rfl 0 (by decide) (hts _ kX0_copyFrom_5) (fun _ h9 => h9) rfl dX0_copyFrom_45 ?_
        refine va_alen hx hb hK hP 3 0 rfl rfl (v := 10) rfl dX0_copyFrom_48 ?_
        refine lv_icmp_ge (tgt := 70) hx hb dX0_copyFrom_49 (by decide) (fun c_2 => ?_) (fun c_2 => ?_)
        · have h := h.1 c_2
          exact hret (cc', ac', fc', lc', f') _ _ _ _ _ _ h (hP.sub [0, 1, 2, 3] rfl) (hD.sub [0, 1, 2, 3] (by decide) rfl) hS (Nat.le_of_ble_eq_true rfl) (Nat.le_of_ble_eq_true rfl) dX0_copyFrom_70
        · have h := h.2 c_2
          refine lv_aload_n hx hb dX0_copyFrom_52 rfl (lv_at hl 0 rfl) ?_
          refine va_get (D := D) (ci := 0) (v := .ref za) (C := RX0) (T := TX0) (N := 5) hx hb hts nX0_copyFrom_wsX00 hown hK hP 0 rfl rfl 0 (by decide) (hts _ kX0_copyFrom_5) (fun _ h9 => h9) rfl dX0_copyFrom_53 ?_
          refine lv_iload_n hx hb dX0_copyFrom_56 rfl (lv_at hl 2 rfl) ?_
          refine lv_aload_n hx hb dX0_copyFrom_57 rfl (lv_at hl 1 rfl) ?_
          refine va_get (D := D) (ci := 0) (v := .ref oa) (C := RX0) (T := TX0) (N := 5) hx hb hts nX0_copyFrom_wsX00 hown hK hP 2 rfl rfl 0 (by decide) (hts _ kX0_copyFrom_5) (fun _ h9 => h9) rfl dX0_copyFrom_58 ?_
          refine lv_iload_n hx hb dX0_copyFrom_61 rfl (lv_at hl 2 rfl) ?_
          obtain ⟨i_3, h⟩ := h
          refine va_iald hx hb hK hP 3 0 rfl rfl i_3 dX0_copyFrom_62 ?_
          obtain ⟨i_4, h⟩ := h
          refine va_iast hx hb hK hP hD hS 1 0 rfl rfl i_4 dX0_copyFrom_63 (fun H locs hP hD hS => ?_)
          have hP : va_P D vwCl [(zh, .inr (0, [.ref za, .int cc', .int ac', .int fc', .int lc'])), (za, .inl (cI, 10, .inl (upd f' x2.toNatClampNeg (of x2.toNatClampNeg)))), (oh, .inr (0, [.ref oa, .int occ, .int oac, .int ofc, .int olc])), (oa, .inl (cI, 10, .inl of))] H := hP
          have hD : va_D A [(zh, .inr (0, [.ref za, .int cc', .int ac', .int fc', .int lc'])), (za, .inl (cI, 10, .inl (upd f' x2.toNatClampNeg (of x2.toNatClampNeg)))), (oh, .inr (0, [.ref oa, .int occ, .int oac, .int ofc, .int olc])), (oa, .inl (cI, 10, .inl of))] := hD
          obtain ⟨y_5, ey_5⟩ : ∃ y : Int32, y = x2 + 1 := ⟨_, rfl⟩
          have h := h y_5 ey_5
          refine lv_iinc (v := y_5) (lv' := [(2, .int y_5), (0, .ref zh), (1, .ref oh)]) hx hb dX0_copyFrom_64 hl (k := 2) rfl (by rw [ey_5]; rfl) (by decide) rfl (fun ls hl => ?_)
          refine lv_goto (tgt := 34) hx hb dX0_copyFrom_67 (by decide) ?_
          exact ih _ _ _ _ _ _ _ _ _ h.1 (Nat.lt_of_lt_of_le h.2 (Nat.le_of_lt_succ hmu)) (hP.sub [0, 1, 2, 3] rfl) (hD.sub [0, 1, 2, 3] (by decide) rfl) hS (lv_sub hl [1, 2, 0] rfl)
  have h := he
  unfold ve_X0_copyFrom at h
  have hl : lv_has ls 3 [(0, .ref zh), (1, .ref oh)] := hl
  refine lv_aload_n hx hb dX0_copyFrom_0 rfl (lv_at hl 0 rfl) ?_
  refine lv_aload_n hx hb dX0_copyFrom_1 rfl (lv_at hl 1 rfl) ?_
  refine va_get (D := D) (ci := 0) (v := .int occ) (C := RX0) (T := TX0) (N := 5) hx hb hts nX0_copyFrom_wsX00 hown hK hP 2 rfl rfl 1 (by decide) (hts _ kX0_copyFrom_1) (fun _ h9 => h9) rfl dX0_copyFrom_2 ?_
  refine va_put (D := D) (ci := 0) (v := .int occ) (ty := .int) (C := RX0) (T := TX0) (N := 5) hx hb hts nX0_copyFrom_wsX00 tyX0 tyX0_ok nmX0 hown hK hP hD hS 0 rfl rfl 1 (by decide) (hts _ kX0_copyFrom_1) (fun _ h9 => h9) rfl (by decide +kernel) rfl rfl (Nat.le_of_ble_eq_true rfl) dX0_copyFrom_5 (fun H locs hP hD hS => ?_)
  have hP : va_P D vwCl [(zh, .inr (0, [.ref za, .int occ, .int ac, .int fc, .int lc])), (za, .inl (cI, 10, .inl f)), (oh, .inr (0, [.ref oa, .int occ, .int oac, .int ofc, .int olc])), (oa, .inl (cI, 10, .inl of))] H := hP
  have hD : va_D A [(zh, .inr (0, [.ref za, .int occ, .int ac, .int fc, .int lc])), (za, .inl (cI, 10, .inl f)), (oh, .inr (0, [.ref oa, .int occ, .int oac, .int ofc, .int olc])), (oa, .inl (cI, 10, .inl of))] := hD
  refine lv_aload_n hx hb dX0_copyFrom_8 rfl (lv_at hl 0 rfl) ?_
  refine lv_aload_n hx hb dX0_copyFrom_9 rfl (lv_at hl 1 rfl) ?_
  refine va_get (D := D) (ci := 0) (v := .int oac) (C := RX0) (T := TX0) (N := 5) hx hb hts nX0_copyFrom_wsX00 hown hK hP 2 rfl rfl 2 (by decide) (hts _ kX0_copyFrom_2) (fun _ h9 => h9) rfl dX0_copyFrom_10 ?_
  refine va_put (D := D) (ci := 0) (v := .int oac) (ty := .int) (C := RX0) (T := TX0) (N := 5) hx hb hts nX0_copyFrom_wsX00 tyX0 tyX0_ok nmX0 hown hK hP hD hS 0 rfl rfl 2 (by decide) (hts _ kX0_copyFrom_2) (fun _ h9 => h9) rfl (by decide +kernel) rfl rfl (Nat.le_of_ble_eq_true rfl) dX0_copyFrom_13 (fun H locs hP hD hS => ?_)
  have hP : va_P D vwCl [(zh, .inr (0, [.ref za, .int occ, .int oac, .int fc, .int lc])), (za, .inl (cI, 10, .inl f)), (oh, .inr (0, [.ref oa, .int occ, .int oac, .int ofc, .int olc])), (oa, .inl (cI, 10, .inl of))] H := hP
  have hD : va_D A [(zh, .inr (0, [.ref za, .int occ, .int oac, .int fc, .int lc])), (za, .inl (cI, 10, .inl f)), (oh, .inr (0, [.ref oa, .int occ, .int oac, .int ofc, .int olc])), (oa, .inl (cI, 10, .inl of))] := hD
  refine lv_aload_n hx hb dX0_copyFrom_16 rfl (lv_at hl 0 rfl) ?_
  refine lv_aload_n hx hb dX0_copyFrom_17 rfl (lv_at hl 1 rfl) ?_
  refine va_get (D := D) (ci := 0) (v := .int ofc) (C := RX0) (T := TX0) (N := 5) hx hb hts nX0_copyFrom_wsX00 hown hK hP 2 rfl rfl 3 (by decide) (hts _ kX0_copyFrom_3) (fun _ h9 => h9) rfl dX0_copyFrom_18 ?_
  refine va_put (D := D) (ci := 0) (v := .int ofc) (ty := .int) (C := RX0) (T := TX0) (N := 5) hx hb hts nX0_copyFrom_wsX00 tyX0 tyX0_ok nmX0 hown hK hP hD hS 0 rfl rfl 3 (by decide) (hts _ kX0_copyFrom_3) (fun _ h9 => h9) rfl (by decide +kernel) rfl rfl (Nat.le_of_ble_eq_true rfl) dX0_copyFrom_21 (fun H locs hP hD hS => ?_)
  have hP : va_P D vwCl [(zh, .inr (0, [.ref za, .int occ, .int oac, .int ofc, .int lc])), (za, .inl (cI, 10, .inl f)), (oh, .inr (0, [.ref oa, .int occ, .int oac, .int ofc, .int olc])), (oa, .inl (cI, 10, .inl of))] H := hP
  have hD : va_D A [(zh, .inr (0, [.ref za, .int occ, .int oac, .int ofc, .int lc])), (za, .inl (cI, 10, .inl f)), (oh, .inr (0, [.ref oa, .int occ, .int oac, .int ofc, .int olc])), (oa, .inl (cI, 10, .inl of))] := hD
  refine lv_aload_n hx hb dX0_copyFrom_24 rfl (lv_at hl 0 rfl) ?_
  refine lv_aload_n hx hb dX0_copyFrom_25 rfl (lv_at hl 1 rfl) ?_
  refine va_get (D := D) (ci := 0) (v := .int olc) (C := RX0) (T := TX0) (N := 5) hx hb hts nX0_copyFrom_wsX00 hown hK hP 2 rfl rfl 4 (by decide) (hts _ kX0_copyFrom_4) (fun _ h9 => h9) rfl dX0_copyFrom_26 ?_
  refine va_put (D := D) (ci := 0) (v := .int olc) (ty := .int) (C := RX0) (T := TX0) (N := 5) hx hb hts nX0_copyFrom_wsX00 tyX0 tyX0_ok nmX0 hown hK hP hD hS 0 rfl rfl 4 (by decide) (hts _ kX0_copyFrom_4) (fun _ h9 => h9) rfl (by decide +kernel) rfl rfl (Nat.le_of_ble_eq_true rfl) dX0_copyFrom_29 (fun H locs hP hD hS => ?_)
  have hP : va_P D vwCl [(zh, .inr (0, [.ref za, .int occ, .int oac, .int ofc, .int olc])), (za, .inl (cI, 10, .inl f)), (oh, .inr (0, [.ref oa, .int occ, .int oac, .int ofc, .int olc])), (oa, .inl (cI, 10, .inl of))] H := hP
  have hD : va_D A [(zh, .inr (0, [.ref za, .int occ, .int oac, .int ofc, .int olc])), (za, .inl (cI, 10, .inl f)), (oh, .inr (0, [.ref oa, .int occ, .int oac, .int ofc, .int olc])), (oa, .inl (cI, 10, .inl of))] := hD
  refine lv_iconst (v := 0) hx hb dX0_copyFrom_32 (by decide) ?_
  refine lv_istore_n (lv' := [(2, .int 0), (0, .ref zh), (1, .ref oh)]) hx hb dX0_copyFrom_33 rfl hl (by decide) rfl (fun ls hl => ?_)
  exact L34 _ _ _ _ _ _ _ _ _ _ h (Nat.lt_succ_self _) (hP.sub [0, 1, 2, 3] rfl) (hD.sub [0, 1, 2, 3] (by decide) rfl) hS (lv_sub hl [1, 2, 0] rfl)
theorem c_X0_copyFrom (l : Launch) (D : va_G) (cI : ClassId) (zh za oh oa : Nat) (sz : Nat) (cc : Int32) (ac : Int32) (fc : Int32) (lc : Int32) (f : Nat → Int32) (occ : Int32) (oac : Int32) (ofc : Int32) (olc : Int32) (of : Nat → Int32) : Met l yX0_copyFrom wsX0_copyFrom ({ frames := 0, cells := 0, slots := 0, locals := 0 } : Room) (ff_Pc D [(cI, .int)] [.ref zh, .ref oh] ([(zh, .inr (0, [.ref za, .int cc, .int ac, .int fc, .int lc])), (za, .inl (cI, 10, .inl f)), (oh, .inr (0, [.ref oa, .int occ, .int oac, .int ofc, .int olc])), (oa, .inl (cI, 10, .inl of))] : va_W) sz) (va_Qv (fun (u : Int32 × Int32 × Int32 × Int32 × (Nat → Int32)) => u = (occ, oac, ofc, olc, zcp f of)) (fun (u : Int32 × Int32 × Int32 × Int32 × (Nat → Int32)) t => ff_B D [(cI, .int)] (va_A ([(zh, .inr (0, [.ref za, .int cc, .int ac, .int fc, .int lc])), (za, .inl (cI, 10, .inl f)), (oh, .inr (0, [.ref oa, .int occ, .int oac, .int ofc, .int olc])), (oa, .inl (cI, 10, .inl of))] : va_W) sz) [(zh, .inr (0, [.ref za, .int (u.1), .int (u.2.1), .int (u.2.2.1), .int (u.2.2.2.1)])), (za, .inl (cI, 10, .inl (u.2.2.2.2))), (oh, .inr (0, [.ref oa, .int occ, .int oac, .int ofc, .int olc])), (oa, .inl (cI, 10, .inl of))] t) (va_A ([(zh, .inr (0, [.ref za, .int cc, .int ac, .int fc, .int lc])), (za, .inl (cI, 10, .inl f)), (oh, .inr (0, [.ref oa, .int occ, .int oac, .int ofc, .int olc])), (oa, .inl (cI, 10, .inl of))] : va_W) sz)) 0 0 (va_A ([(zh, .inr (0, [.ref za, .int cc, .int ac, .int fc, .int lc])), (za, .inl (cI, 10, .inl f)), (oh, .inr (0, [.ref oa, .int occ, .int oac, .int ofc, .int olc])), (oa, .inl (cI, 10, .inl of))] : va_W) sz) :=
  a_X0_copyFrom l D cI zh za oh oa sz cc ac fc lc f occ oac ofc olc of _ (I_X0_copyFrom_34 cc ac fc lc f occ oac ofc olc of) (mu_X0_copyFrom_34 cc ac fc lc f occ oac ofc olc of) (pl_X0_copyFrom_34 cc ac fc lc f occ oac ofc olc of) (pe_X0_copyFrom cc ac fc lc f occ oac ofc olc of)
