set_option maxHeartbeats 4000000 in
set_option maxRecDepth 100000 in
theorem a_L_areNext (l : Launch) (D : va_G) (cI : ClassId) (qg : Nat) (sz : Nat) (fg : Nat → Int32) (p1 : Int32) (p2 : Int32) (P : Int32 → Unit → Prop)  (he : ve_L_areNext fg p1 p2 P ) : Met l yL_areNext wsL_areNext ({ frames := 0, cells := 0, slots := 0, locals := 0 } : Room) (ff_Pc D [(cI, .int)] [.ref qg, .int p1, .int p2] ([(qg, .inl (cI, 3, .inl fg))] : va_W) sz) (va_Qi P (fun (u : Unit) t => ff_B D [(cI, .int)] (va_A ([(qg, .inl (cI, 3, .inl fg))] : va_W) sz) [(qg, .inl (cI, 3, .inl fg))] t) (va_A ([(qg, .inl (cI, 3, .inl fg))] : va_W) sz)) 0 0 (va_A ([(qg, .inl (cI, 3, .inl fg))] : va_W) sz) := by
  refine ff_metZ (Wf := (fun (u : Unit) => ([(qg, .inl (cI, 3, .inl fg))] : va_W))) (by decide +kernel) rfl (Nat.le_of_ble_eq_true rfl) ?_
  intro p e s m args below meth c A Q ls H hx hb hml hown hts hN hA hK hP hD hS hret hl
  have h := he
  unfold ve_L_areNext at h
  have hl : lv_has ls 5 [(0, .ref qg), (1, .int p1), (2, .int p2)] := hl
  refine lv_iload_n hx hb dL_areNext_0 rfl (lv_at hl 1 rfl) ?_
  refine lv_aload_n hx hb dL_areNext_1 rfl (lv_at hl 0 rfl) ?_
  refine lv_iconst (v := 1) hx hb dL_areNext_2 (by decide) ?_
  refine ff_ialdK hx hb hK hP 0 0 rfl rfl (vp_in_nI (n := 1) (N := 3) (by decide) (by decide)) (k := 1) rfl dL_areNext_3 ?_
  obtain ⟨n_1, h⟩ := h
  refine lv_idiv hx hb dL_areNext_4 n_1 ?_
  refine lv_iload_n hx hb dL_areNext_5 rfl (lv_at hl 2 rfl) ?_
  refine lv_aload_n hx hb dL_areNext_6 rfl (lv_at hl 0 rfl) ?_
  refine lv_iconst (v := 1) hx hb dL_areNext_7 (by decide) ?_
  refine ff_ialdK hx hb hK hP 0 0 rfl rfl (vp_in_nI (n := 1) (N := 3) (by decide) (by decide)) (k := 1) rfl dL_areNext_8 ?_
  obtain ⟨n_2, h⟩ := h
  refine lv_idiv hx hb dL_areNext_9 n_2 ?_
  refine lv_isub hx hb dL_areNext_10 ?_
  refine lv_topi (fun y_3 ey_3 => ?_)
  have h := h y_3 ey_3
  refine lv_istore_n (lv' := [(3, .int y_3), (0, .ref qg), (1, .int p1), (2, .int p2)]) hx hb dL_areNext_11 rfl hl (by decide) rfl (fun ls hl => ?_)
  refine lv_iload_n hx hb dL_areNext_12 rfl (lv_at hl 2 rfl) ?_
  refine lv_aload_n hx hb dL_areNext_13 rfl (lv_at hl 1 rfl) ?_
  refine lv_iconst (v := 1) hx hb dL_areNext_14 (by decide) ?_
  refine ff_ialdK hx hb hK hP 0 0 rfl rfl (vp_in_nI (n := 1) (N := 3) (by decide) (by decide)) (k := 1) rfl dL_areNext_15 ?_
  obtain ⟨n_4, h⟩ := h
  refine lv_irem hx hb dL_areNext_16 n_4 ?_
  refine lv_iload_n hx hb dL_areNext_17 rfl (lv_at hl 3 rfl) ?_
  refine lv_aload_n hx hb dL_areNext_18 rfl (lv_at hl 1 rfl) ?_
  refine lv_iconst (v := 1) hx hb dL_areNext_19 (by decide) ?_
  refine ff_ialdK hx hb hK hP 0 0 rfl rfl (vp_in_nI (n := 1) (N := 3) (by decide) (by decide)) (k := 1) rfl dL_areNext_20 ?_
  obtain ⟨n_5, h⟩ := h
  refine lv_irem hx hb dL_areNext_21 n_5 ?_
  refine lv_isub hx hb dL_areNext_22 ?_
  refine lv_topi (fun y_6 ey_6 => ?_)
  have h := h y_6 ey_6
  refine lv_istore (lv' := [(4, .int y_6), (3, .int y_3), (0, .ref qg), (1, .int p1), (2, .int p2)]) hx hb dL_areNext_23 hl (by decide) rfl (fun ls hl => ?_)
  refine lv_iload_n hx hb dL_areNext_25 rfl (lv_at hl 1 rfl) ?_
  refine lv_iload_n hx hb dL_areNext_26 rfl (lv_at hl 1 rfl) ?_
  refine lv_imul hx hb dL_areNext_27 ?_
  refine lv_iload hx hb dL_areNext_28 (lv_at hl 0 rfl) ?_
  refine lv_iload hx hb dL_areNext_30 (lv_at hl 0 rfl) ?_
  refine lv_imul hx hb dL_areNext_32 ?_
  refine lv_iadd hx hb dL_areNext_33 ?_
  refine lv_iconst (v := 1) hx hb dL_areNext_34 (by decide) ?_
  refine lv_icmp_ne (tgt := 42) hx hb dL_areNext_35 (by decide) (fun c_7 => ?_) (fun c_7 => ?_)
  · have h := h.2 c_7
    refine lv_iconst (v := 0) hx hb dL_areNext_42 (by decide) ?_
    exact hret 0 () _ _ _ _ _ _ (by decide) h (hP.sub [0] rfl) (hD.sub [0] (by decide) rfl) hS (Nat.le_of_ble_eq_true rfl) (Nat.le_of_ble_eq_true rfl) dL_areNext_43
  · have h := h.1 c_7
    refine lv_iconst (v := 1) hx hb dL_areNext_38 (by decide) ?_
    refine lv_goto (tgt := 43) hx hb dL_areNext_39 (by decide) ?_
    exact hret 1 () _ _ _ _ _ _ (by decide) h (hP.sub [0] rfl) (hD.sub [0] (by decide) rfl) hS (Nat.le_of_ble_eq_true rfl) (Nat.le_of_ble_eq_true rfl) dL_areNext_43
theorem c_L_areNext (l : Launch) (D : va_G) (cI : ClassId) (qg : Nat) (sz : Nat) (fg : Nat → Int32) (p1 : Int32) (p2 : Int32) (hpre : ¬ fg 1 = 0) : Met l yL_areNext wsL_areNext ({ frames := 0, cells := 0, slots := 0, locals := 0 } : Room) (ff_Pc D [(cI, .int)] [.ref qg, .int p1, .int p2] ([(qg, .inl (cI, 3, .inl fg))] : va_W) sz) (va_Qi (fun (r : Int32) (u : Unit) => r = b2i (lnx (fg 1) p1 p2)) (fun (u : Unit) t => ff_B D [(cI, .int)] (va_A ([(qg, .inl (cI, 3, .inl fg))] : va_W) sz) [(qg, .inl (cI, 3, .inl fg))] t) (va_A ([(qg, .inl (cI, 3, .inl fg))] : va_W) sz)) 0 0 (va_A ([(qg, .inl (cI, 3, .inl fg))] : va_W) sz) :=
  a_L_areNext l D cI qg sz fg p1 p2 _  (pe_L_areNext fg p1 p2 hpre)
set_option maxHeartbeats 4000000 in
set_option maxRecDepth 100000 in
theorem a_L_many (l : Launch) (D : va_G) (cI : ClassId) (sz : Nat) (p0 : Int32) (P : Int32 → Unit → Prop) (I4 : Int32 → Int32 → Prop) (mu4 : Int32 → Int32 → Nat) (hv4 : ∀ (x1 : Int32) (x2 : Int32), I4 x1 x2 → vs_L_many_4 p0 P (fun (x19 : Int32) (x29 : Int32) => I4 x19 x29 ∧ mu4 x19 x29 < mu4 x1 x2) x1 x2) (he : ve_L_many p0 P I4) : Met l yL_many wsL_many ({ frames := 0, cells := 0, slots := 0, locals := 0 } : Room) (ff_Pc D [(cI, .int)] [.int p0] ([] : va_W) sz) (va_Qi P (fun (u : Unit) t => ff_B D [(cI, .int)] (va_A ([] : va_W) sz) [] t) (va_A ([] : va_W) sz)) 0 0 (va_A ([] : va_W) sz) := by
  refine ff_metI (Wf := (fun (u : Unit) => ([] : va_W))) (by decide +kernel) rfl (Nat.le_of_ble_eq_true rfl) ?_
  intro p e s m args below meth c A Q ls H hx hb hml hown hts hN hA hK hP hD hS hret hl
  have L4 : ∀ (N : Nat) (x1 : Int32) (x2 : Int32) (H : Heap) (locs : List Loc) (ls : Array Slot), I4 x1 x2 → mu4 x1 x2 < N → va_P D vwCl [] H → va_D A [] → va_S A s.heap H locs → lv_has ls 3 [(0, .int p0), (1, .int x1), (2, .int x2)] → W p l e ({ frames := 0, cells := 0, slots := 0, locals := 0 } : Room) s m args below meth c H locs 0 0 Q (F0 m 4 ls []) := by
    intro N
    induction N with
    | zero => intros; rename_i hz _ _ _ _; exact absurd hz (Nat.not_lt_zero _)
    | succ N ih =>
      intro x1 x2 H locs ls hI hmu hP hD hS hl
      have h := hv4 x1 x2 hI
      unfold vs_L_many_4 at h
      refine lv_iload_n hx hb dL_many_4 rfl (lv_at hl 2 rfl) ?_
      refine lv_if_eq (tgt := 20) hx hb dL_many_5 (by decide) (fun c_1 => ?_) (fun c_1 => ?_)
      · have h := h.1 c_1
        refine lv_iload_n hx hb dL_many_20 rfl (lv_at hl 1 rfl) ?_
        exact hret x1 () _ _ _ _ _ _ h (hP.sub [] rfl) (hD.sub [] (by decide) rfl) hS (Nat.le_of_ble_eq_true rfl) (Nat.le_of_ble_eq_true rfl) dL_many_21
      · have h := h.2 c_1
        obtain ⟨y_2, ey_2⟩ : ∃ y : Int32, y = x1 + 1 := ⟨_, rfl⟩
        have h := h y_2 ey_2
        refine lv_iinc (v := y_2) (lv' := [(1, .int y_2), (0, .int p0), (2, .int x2)]) hx hb dL_many_8 hl (k := 1) rfl (by rw [ey_2]; rfl) (by decide) rfl (fun ls hl => ?_)
        refine lv_iload_n hx hb dL_many_11 rfl (lv_at hl 2 rfl) ?_
        refine lv_iload_n hx hb dL_many_12 rfl (lv_at hl 2 rfl) ?_
        refine lv_iconst (v := 1) hx hb dL_many_13 (by decide) ?_
        refine lv_isub hx hb dL_many_14 ?_
        refine lv_iand hx hb dL_many_15 ?_
        refine lv_topi (fun y_3 ey_3 => ?_)
        have h := h y_3 ey_3
        refine lv_istore_n (lv' := [(2, .int y_3), (1, .int y_2), (0, .int p0)]) hx hb dL_many_16 rfl hl (by decide) rfl (fun ls hl => ?_)
        refine lv_goto (tgt := 4) hx hb dL_many_17 (by decide) ?_
        exact ih _ _ _ _ _ h.1 (Nat.lt_of_lt_of_le h.2 (Nat.le_of_lt_succ hmu)) (hP.sub [] rfl) (hD.sub [] (by decide) rfl) hS (lv_sub hl [2, 1, 0] rfl)
  have h := he
  unfold ve_L_many at h
  have hl : lv_has ls 3 [(0, .int p0)] := hl
  refine lv_iconst (v := 0) hx hb dL_many_0 (by decide) ?_
  refine lv_istore_n (lv' := [(1, .int 0), (0, .int p0)]) hx hb dL_many_1 rfl hl (by decide) rfl (fun ls hl => ?_)
  refine lv_iload_n hx hb dL_many_2 rfl (lv_at hl 1 rfl) ?_
  refine lv_istore_n (lv' := [(2, .int p0), (1, .int 0), (0, .int p0)]) hx hb dL_many_3 rfl hl (by decide) rfl (fun ls hl => ?_)
  exact L4 _ _ _ _ _ _ h (Nat.lt_succ_self _) (hP.sub [] rfl) (hD.sub [] (by decide) rfl) hS (lv_sub hl [2, 1, 0] rfl)
theorem c_L_many (l : Launch) (D : va_G) (cI : ClassId) (sz : Nat) (p0 : Int32) (hpre : sm 12 p0) : Met l yL_many wsL_many ({ frames := 0, cells := 0, slots := 0, locals := 0 } : Room) (ff_Pc D [(cI, .int)] [.int p0] ([] : va_W) sz) (va_Qi (fun (r : Int32) (u : Unit) => r = nI (cn p0 12)) (fun (u : Unit) t => ff_B D [(cI, .int)] (va_A ([] : va_W) sz) [] t) (va_A ([] : va_W) sz)) 0 0 (va_A ([] : va_W) sz) :=
  a_L_many l D cI  sz p0 _ (I_L_many_4 p0) (mu_L_many_4 p0) (pl_L_many_4 p0 hpre) (pe_L_many p0 hpre)
set_option maxHeartbeats 4000000 in
set_option maxRecDepth 100000 in
theorem a_L_over (l : Launch) (D : va_G) (cI : ClassId) (qg : Nat) (sz : Nat) (fg : Nat → Int32) (p1 : Int32) (p2 : Int32) (P : Int32 → Unit → Prop) (I7 : Int32 → Int32 → Prop) (mu7 : Int32 → Int32 → Nat) (I19 : Int32 → Int32 → Int32 → Prop) (mu19 : Int32 → Int32 → Int32 → Nat) (I34 : Int32 → Int32 → Int32 → Int32 → Prop) (mu34 : Int32 → Int32 → Int32 → Int32 → Nat) (hv7 : ∀ (x3 : Int32) (x4 : Int32), I7 x3 x4 → vs_L_over_7 fg p1 p2 P (fun (x39 : Int32) (x49 : Int32) => I7 x39 x49 ∧ mu7 x39 x49 < mu7 x3 x4) (fun (x39 : Int32) (x49 : Int32) (x59 : Int32) => I19 x39 x49 x59 ∧ mu19 x39 x49 x59 < mu7 x3 x4) (fun (x39 : Int32) (x49 : Int32) (x59 : Int32) (x69 : Int32) => I34 x39 x49 x59 x69 ∧ mu34 x39 x49 x59 x69 < mu7 x3 x4) x3 x4) (hv19 : ∀ (x3 : Int32) (x4 : Int32) (x5 : Int32), I19 x3 x4 x5 → vs_L_over_19 fg p1 p2 P (fun (x39 : Int32) (x49 : Int32) => I7 x39 x49 ∧ mu7 x39 x49 < mu19 x3 x4 x5) (fun (x39 : Int32) (x49 : Int32) (x59 : Int32) => I19 x39 x49 x59 ∧ mu19 x39 x49 x59 < mu19 x3 x4 x5) (fun (x39 : Int32) (x49 : Int32) (x59 : Int32) (x69 : Int32) => I34 x39 x49 x59 x69 ∧ mu34 x39 x49 x59 x69 < mu19 x3 x4 x5) x3 x4 x5) (hv34 : ∀ (x3 : Int32) (x4 : Int32) (x5 : Int32) (x6 : Int32), I34 x3 x4 x5 x6 → vs_L_over_34 fg p1 p2 P (fun (x39 : Int32) (x49 : Int32) => I7 x39 x49 ∧ mu7 x39 x49 < mu34 x3 x4 x5 x6) (fun (x39 : Int32) (x49 : Int32) (x59 : Int32) => I19 x39 x49 x59 ∧ mu19 x39 x49 x59 < mu34 x3 x4 x5 x6) (fun (x39 : Int32) (x49 : Int32) (x59 : Int32) (x69 : Int32) => I34 x39 x49 x59 x69 ∧ mu34 x39 x49 x59 x69 < mu34 x3 x4 x5 x6) x3 x4 x5 x6) (he : ve_L_over fg p1 p2 P I7 I19 I34) : Met l yL_over wsL_over ({ frames := 1, cells := 0, slots := 0, locals := 24 } : Room) (ff_Pc D [(cI, .int)] [.ref qg, .int p1, .int p2] ([(qg, .inl (cI, 3, .inl fg))] : va_W) sz) (va_Qi P (fun (u : Unit) t => ff_B D [(cI, .int)] (va_A ([(qg, .inl (cI, 3, .inl fg))] : va_W) sz) [(qg, .inl (cI, 3, .inl fg))] t) (va_A ([(qg, .inl (cI, 3, .inl fg))] : va_W) sz)) 0 0 (va_A ([(qg, .inl (cI, 3, .inl fg))] : va_W) sz) := by
  refine ff_metI (Wf := (fun (u : Unit) => ([(qg, .inl (cI, 3, .inl fg))] : va_W))) (by decide +kernel) rfl (Nat.le_of_ble_eq_true rfl) ?_
  intro p e s m args below meth c A Q ls H hx hb hml hown hts hN hA hK hP hD hS hret hl
  have LL7 : ∀ (N : Nat), (∀ (x3 : Int32) (x4 : Int32) (H : Heap) (locs : List Loc) (ls : Array Slot), I7 x3 x4 → mu7 x3 x4 < N → va_P D vwCl [(qg, .inl (cI, 3, .inl fg))] H → va_D A [(qg, .inl (cI, 3, .inl fg))] → va_S A s.heap H locs → lv_has ls 7 [(0, .ref qg), (1, .int p1), (2, .int p2), (3, .int x3), (4, .int x4)] → W p l e ({ frames := 1, cells := 0, slots := 0, locals := 24 } : Room) s m args below meth c H locs 0 0 Q (F0 m 7 ls [])) ∧ (∀ (x3 : Int32) (x4 : Int32) (x5 : Int32) (H : Heap) (locs : List Loc) (ls : Array Slot), I19 x3 x4 x5 → mu19 x3 x4 x5 < N → va_P D vwCl [(qg, .inl (cI, 3, .inl fg))] H → va_D A [(qg, .inl (cI, 3, .inl fg))] → va_S A s.heap H locs → lv_has ls 7 [(0, .ref qg), (1, .int p1), (2, .int p2), (3, .int x3), (4, .int x4), (5, .int x5)] → W p l e ({ frames := 1, cells := 0, slots := 0, locals := 24 } : Room) s m args below meth c H locs 0 0 Q (F0 m 19 ls [])) ∧ (∀ (x3 : Int32) (x4 : Int32) (x5 : Int32) (x6 : Int32) (H : Heap) (locs : List Loc) (ls : Array Slot), I34 x3 x4 x5 x6 → mu34 x3 x4 x5 x6 < N → va_P D vwCl [(qg, .inl (cI, 3, .inl fg))] H → va_D A [(qg, .inl (cI, 3, .inl fg))] → va_S A s.heap H locs → lv_has ls 7 [(0, .ref qg), (1, .int p1), (2, .int p2), (3, .int x3), (4, .int x4), (5, .int x5), (6, .int x6)] → W p l e ({ frames := 1, cells := 0, slots := 0, locals := 24 } : Room) s m args below meth c H locs 0 0 Q (F0 m 34 ls [])) := by
    intro N
    induction N with
    | zero => exact ⟨by intros; rename_i hz _ _ _ _; exact absurd hz (Nat.not_lt_zero _), by intros; rename_i hz _ _ _ _; exact absurd hz (Nat.not_lt_zero _), by intros; rename_i hz _ _ _ _; exact absurd hz (Nat.not_lt_zero _)⟩
    | succ N ih =>
      refine ⟨?_, ?_, ?_⟩
      · intro x3 x4 H locs ls hI hmu hP hD hS hl
        have h := hv7 x3 x4 hI
        unfold vs_L_over_7 at h
        refine lv_iload_n hx hb dL_over_7 rfl (lv_at hl 3 rfl) ?_
        refine lv_iload hx hb dL_over_8 (lv_at hl 4 rfl) ?_
        refine lv_icmp_eq (tgt := 103) hx hb dL_over_10 (by decide) (fun c_1 => ?_) (fun c_1 => ?_)
        · have h := h.1 c_1
          refine lv_iload_n hx hb dL_over_103 rfl (lv_at hl 3 rfl) ?_
          exact hret x3 () _ _ _ _ _ _ h (hP.sub [0] rfl) (hD.sub [0] (by decide) rfl) hS (Nat.le_of_ble_eq_true rfl) (Nat.le_of_ble_eq_true rfl) dL_over_104
        · have h := h.2 c_1
          refine lv_iload_n hx hb dL_over_13 rfl (lv_at hl 3 rfl) ?_
          refine lv_istore (lv' := [(4, .int x3), (0, .ref qg), (1, .int p1), (2, .int p2), (3, .int x3)]) hx hb dL_over_14 hl (by decide) rfl (fun ls hl => ?_)
          refine lv_iconst (v := 0) hx hb dL_over_16 (by decide) ?_
          refine lv_istore (lv' := [(5, .int 0), (4, .int x3), (0, .ref qg), (1, .int p1), (2, .int p2), (3, .int x3)]) hx hb dL_over_17 hl (by decide) rfl (fun ls hl => ?_)
          exact ih.2.1 _ _ _ _ _ _ h.1 (Nat.lt_of_lt_of_le h.2 (Nat.le_of_lt_succ hmu)) (hP.sub [0] rfl) (hD.sub [0] (by decide) rfl) hS (lv_sub hl [2, 3, 4, 5, 1, 0] rfl)
      · intro x3 x4 x5 H locs ls hI hmu hP hD hS hl
        have h := hv19 x3 x4 x5 hI
        unfold vs_L_over_19 at h
        refine lv_iload hx hb dL_over_19 (lv_at hl 5 rfl) ?_
        refine lv_aload_n hx hb dL_over_21 rfl (lv_at hl 0 rfl) ?_
        refine lv_iconst (v := 0) hx hb dL_over_22 (by decide) ?_
        refine ff_ialdK hx hb hK hP 0 0 rfl rfl (vp_in_nI (n := 0) (N := 3) (by decide) (by decide)) (k := 0) rfl dL_over_23 ?_
        refine lv_aload_n hx hb dL_over_24 rfl (lv_at hl 0 rfl) ?_
        refine lv_iconst (v := 1) hx hb dL_over_25 (by decide) ?_
        refine ff_ialdK hx hb hK hP 0 0 rfl rfl (vp_in_nI (n := 1) (N := 3) (by decide) (by decide)) (k := 1) rfl dL_over_26 ?_
        refine lv_imul hx hb dL_over_27 ?_
        refine lv_icmp_ge (tgt := 100) hx hb dL_over_28 (by decide) (fun c_2 => ?_) (fun c_2 => ?_)
        · have h := h.1 c_2
          refine lv_goto (tgt := 7) hx hb dL_over_100 (by decide) ?_
          exact ih.1 _ _ _ _ _ h.1 (Nat.lt_of_lt_of_le h.2 (Nat.le_of_lt_succ hmu)) (hP.sub [0] rfl) (hD.sub [0] (by decide) rfl) hS (lv_sub hl [0, 1, 2, 3, 4] rfl)
        · have h := h.2 c_2
          refine lv_iconst (v := 0) hx hb dL_over_31 (by decide) ?_
          refine lv_istore (lv' := [(6, .int 0), (0, .ref qg), (1, .int p1), (2, .int p2), (3, .int x3), (4, .int x4), (5, .int x5)]) hx hb dL_over_32 hl (by decide) rfl (fun ls hl => ?_)
          exact ih.2.2 _ _ _ _ _ _ _ h.1 (Nat.lt_of_lt_of_le h.2 (Nat.le_of_lt_succ hmu)) (hP.sub [0] rfl) (hD.sub [0] (by decide) rfl) hS (lv_sub hl [1, 2, 3, 4, 5, 6, 0] rfl)
      · intro x3 x4 x5 x6 H locs ls hI hmu hP hD hS hl
        have h := hv34 x3 x4 x5 x6 hI
        unfold vs_L_over_34 at h
        refine lv_iload hx hb dL_over_34 (lv_at hl 6 rfl) ?_
        refine lv_aload_n hx hb dL_over_36 rfl (lv_at hl 0 rfl) ?_
        refine lv_iconst (v := 0) hx hb dL_over_37 (by decide) ?_
        refine ff_ialdK hx hb hK hP 0 0 rfl rfl (vp_in_nI (n := 0) (N := 3) (by decide) (by decide)) (k := 0) rfl dL_over_38 ?_
        refine lv_aload_n hx hb dL_over_39 rfl (lv_at hl 0 rfl) ?_
        refine lv_iconst (v := 1) hx hb dL_over_40 (by decide) ?_
        refine ff_ialdK hx hb hK hP 0 0 rfl rfl (vp_in_nI (n := 1) (N := 3) (by decide) (by decide)) (k := 1) rfl dL_over_41 ?_
        refine lv_imul hx hb dL_over_42 ?_
        refine lv_icmp_ge (tgt := 94) hx hb dL_over_43 (by decide) (fun c_3 => ?_) (fun c_3 => ?_)
        · have h := h.1 c_3
          obtain ⟨y_4, ey_4⟩ : ∃ y : Int32, y = x5 + 1 := ⟨_, rfl⟩
          have h := h y_4 ey_4
          refine lv_iinc (v := y_4) (lv' := [(5, .int y_4), (0, .ref qg), (1, .int p1), (2, .int p2), (3, .int x3), (4, .int x4), (6, .int x6)]) hx hb dL_over_94 hl (k := 5) rfl (by rw [ey_4]; rfl) (by decide) rfl (fun ls hl => ?_)
          refine lv_goto (tgt := 19) hx hb dL_over_97 (by decide) ?_
          exact ih.2.1 _ _ _ _ _ _ h.1 (Nat.lt_of_lt_of_le h.2 (Nat.le_of_lt_succ hmu)) (hP.sub [0] rfl) (hD.sub [0] (by decide) rfl) hS (lv_sub hl [1, 2, 3, 4, 5, 0] rfl)
        · have h := h.2 c_3
          refine lv_iload_n hx hb dL_over_46 rfl (lv_at hl 3 rfl) ?_
          refine lv_iload_n hx hb dL_over_47 rfl (lv_at hl 3 rfl) ?_
          refine lv_iload hx hb dL_over_48 (lv_at hl 6 rfl) ?_
          refine lv_ishr hx hb dL_over_50 ?_
          refine lv_iconst (v := 1) hx hb dL_over_51 (by decide) ?_
          refine lv_iand hx hb dL_over_52 ?_
          refine lv_iconst (v := 1) hx hb dL_over_53 (by decide) ?_
          refine lv_icmp_ne (tgt := 85) hx hb dL_over_54 (by decide) (fun c_5 => ?_) (fun c_5 => ?_)
          · have h := h.2 c_5
            refine lv_iconst (v := 0) hx hb dL_over_85 (by decide) ?_
            refine lv_ior hx hb dL_over_86 ?_
            refine lv_topi (fun y_6 ey_6 => ?_)
            have h := h y_6 ey_6
            refine lv_istore_n (lv' := [(3, .int y_6), (0, .ref qg), (1, .int p1), (2, .int p2), (4, .int x4), (5, .int x5), (6, .int x6)]) hx hb dL_over_87 rfl hl (by decide) rfl (fun ls hl => ?_)
            obtain ⟨y_7, ey_7⟩ : ∃ y : Int32, y = x6 + 1 := ⟨_, rfl⟩
            have h := h y_7 ey_7
            refine lv_iinc (v := y_7) (lv' := [(6, .int y_7), (3, .int y_6), (0, .ref qg), (1, .int p1), (2, .int p2), (4, .int x4), (5, .int x5)]) hx hb dL_over_88 hl (k := 6) rfl (by rw [ey_7]; rfl) (by decide) rfl (fun ls hl => ?_)
            refine lv_goto (tgt := 34) hx hb dL_over_91 (by decide) ?_
            exact ih.2.2 _ _ _ _ _ _ _ h.1 (Nat.lt_of_lt_of_le h.2 (Nat.le_of_lt_succ hmu)) (hP.sub [0] rfl) (hD.sub [0] (by decide) rfl) hS (lv_sub hl [2, 3, 4, 1, 5, 6, 0] rfl)
          · have h := h.1 c_5
            refine lv_iload_n hx hb dL_over_57 rfl (lv_at hl 2 rfl) ?_
            refine lv_iload hx hb dL_over_58 (lv_at hl 5 rfl) ?_
            refine lv_ishr hx hb dL_over_60 ?_
            refine lv_iconst (v := 1) hx hb dL_over_61 (by decide) ?_
            refine lv_iand hx hb dL_over_62 ?_
            refine lv_iconst (v := 1) hx hb dL_over_63 (by decide) ?_
            refine lv_icmp_ne (tgt := 85) hx hb dL_over_64 (by decide) (fun c_8 => ?_) (fun c_8 => ?_)
            · have h := h.2 c_8
              refine lv_iconst (v := 0) hx hb dL_over_85 (by decide) ?_
              refine lv_ior hx hb dL_over_86 ?_
              refine lv_topi (fun y_9 ey_9 => ?_)
              have h := h y_9 ey_9
              refine lv_istore_n (lv' := [(3, .int y_9), (0, .ref qg), (1, .int p1), (2, .int p2), (4, .int x4), (5, .int x5), (6, .int x6)]) hx hb dL_over_87 rfl hl (by decide) rfl (fun ls hl => ?_)
              obtain ⟨y_10, ey_10⟩ : ∃ y : Int32, y = x6 + 1 := ⟨_, rfl⟩
              have h := h y_10 ey_10
              refine lv_iinc (v := y_10) (lv' := [(6, .int y_10), (3, .int y_9), (0, .ref qg), (1, .int p1), (2, .int p2), (4, .int x4), (5, .int x5)]) hx hb dL_over_88 hl (k := 6) rfl (by rw [ey_10]; rfl) (by decide) rfl (fun ls hl => ?_)
              refine lv_goto (tgt := 34) hx hb dL_over_91 (by decide) ?_
              exact ih.2.2 _ _ _ _ _ _ _ h.1 (Nat.lt_of_lt_of_le h.2 (Nat.le_of_lt_succ hmu)) (hP.sub [0] rfl) (hD.sub [0] (by decide) rfl) hS (lv_sub hl [2, 3, 4, 1, 5, 6, 0] rfl)
            · have h := h.1 c_8
              refine lv_aload_n hx hb dL_over_67 rfl (lv_at hl 0 rfl) ?_
              refine lv_iload hx hb dL_over_68 (lv_at hl 6 rfl) ?_
              refine lv_iload hx hb dL_over_70 (lv_at hl 5 rfl) ?_
              obtain ⟨p_11, h⟩ := h
              have hPc := hP.sub (ws' := [(qg, .inl (cI, 3, .inl fg))]) [0] rfl
              have hDc := hD.sub (ws' := [(qg, .inl (cI, 3, .inl fg))]) [0] (by decide) rfl
              refine ff_callI (va_runS (As := [.ref qg, .int x6, .int x5]) (rest := [.int x3]) ⟨hx, hb, hml, hown, hts⟩ (c_L_areNext l D cI qg H.size fg x6 x5 p_11) (va_cwS 3 hts gL_over_L_areNext rfl rfl rfl (by decide +kernel) ⟨Nat.le_of_ble_eq_true rfl, Nat.le_of_ble_eq_true rfl⟩) (ff_preS hPc hK hDc hN) rfl rfl hl.1 rfl (lv_room (Nat.le_of_ble_eq_true rfl)) dL_over_72 ⟨Nat.le_of_ble_eq_true rfl, Nat.le_of_ble_eq_true rfl⟩) hP hD hS hA [0] [] (wr := []) rfl rfl (by decide) (by decide) (fun r u H locs hw hP hD hS => ?_)
              replace hw := hw.symm
              subst hw
              have hP : va_P D vwCl [(qg, .inl (cI, 3, .inl fg))] H := hP
              have hD : va_D A [(qg, .inl (cI, 3, .inl fg))] := hD
              refine lv_if_eq (tgt := 85) hx hb dL_over_75 (by decide) (fun c_12 => ?_) (fun c_12 => ?_)
              · have h := h.1 c_12
                refine lv_iconst (v := 0) hx hb dL_over_85 (by decide) ?_
                refine lv_ior hx hb dL_over_86 ?_
                refine lv_topi (fun y_13 ey_13 => ?_)
                have h := h y_13 ey_13
                refine lv_istore_n (lv' := [(3, .int y_13), (0, .ref qg), (1, .int p1), (2, .int p2), (4, .int x4), (5, .int x5), (6, .int x6)]) hx hb dL_over_87 rfl hl (by decide) rfl (fun ls hl => ?_)
                obtain ⟨y_14, ey_14⟩ : ∃ y : Int32, y = x6 + 1 := ⟨_, rfl⟩
                have h := h y_14 ey_14
                refine lv_iinc (v := y_14) (lv' := [(6, .int y_14), (3, .int y_13), (0, .ref qg), (1, .int p1), (2, .int p2), (4, .int x4), (5, .int x5)]) hx hb dL_over_88 hl (k := 6) rfl (by rw [ey_14]; rfl) (by decide) rfl (fun ls hl => ?_)
                refine lv_goto (tgt := 34) hx hb dL_over_91 (by decide) ?_
                exact ih.2.2 _ _ _ _ _ _ _ h.1 (Nat.lt_of_lt_of_le h.2 (Nat.le_of_lt_succ hmu)) (hP.sub [0] rfl) (hD.sub [0] (by decide) rfl) hS (lv_sub hl [2, 3, 4, 1, 5, 6, 0] rfl)
              · have h := h.2 c_12
                refine lv_iconst (v := 1) hx hb dL_over_78 (by decide) ?_
                refine lv_iload hx hb dL_over_79 (lv_at hl 5 rfl) ?_
                refine lv_ishl hx hb dL_over_81 ?_
                refine lv_goto (tgt := 86) hx hb dL_over_82 (by decide) ?_
                refine lv_ior hx hb dL_over_86 ?_
                refine lv_topi (fun y_15 ey_15 => ?_)
                have h := h y_15 ey_15
                refine lv_istore_n (lv' := [(3, .int y_15), (0, .ref qg), (1, .int p1), (2, .int p2), (4, .int x4), (5, .int x5), (6, .int x6)]) hx hb dL_over_87 rfl hl (by decide) rfl (fun ls hl => ?_)
                obtain ⟨y_16, ey_16⟩ : ∃ y : Int32, y = x6 + 1 := ⟨_, rfl⟩
                have h := h y_16 ey_16
                refine lv_iinc (v := y_16) (lv' := [(6, .int y_16), (3, .int y_15), (0, .ref qg), (1, .int p1), (2, .int p2), (4, .int x4), (5, .int x5)]) hx hb dL_over_88 hl (k := 6) rfl (by rw [ey_16]; rfl) (by decide) rfl (fun ls hl => ?_)
                refine lv_goto (tgt := 34) hx hb dL_over_91 (by decide) ?_
                exact ih.2.2 _ _ _ _ _ _ _ h.1 (Nat.lt_of_lt_of_le h.2 (Nat.le_of_lt_succ hmu)) (hP.sub [0] rfl) (hD.sub [0] (by decide) rfl) hS (lv_sub hl [2, 3, 4, 1, 5, 6, 0] rfl)
  have L7 := fun N => (LL7 N).1
  have L19 := fun N => (LL7 N).2.1
  have L34 := fun N => (LL7 N).2.2
  have h := he
  unfold ve_L_over at h
  have hl : lv_has ls 7 [(0, .ref qg), (1, .int p1), (2, .int p2)] := hl
  refine lv_iconst (v := 1) hx hb dL_over_0 (by decide) ?_
  refine lv_iload_n hx hb dL_over_1 rfl (lv_at hl 1 rfl) ?_
  refine lv_ishl hx hb dL_over_2 ?_
  refine lv_topi (fun y_17 ey_17 => ?_)
  have h := h y_17 ey_17
  refine lv_istore_n (lv' := [(3, .int y_17), (0, .ref qg), (1, .int p1), (2, .int p2)]) hx hb dL_over_3 rfl hl (by decide) rfl (fun ls hl => ?_)
  refine lv_iconst (v := 0) hx hb dL_over_4 (by decide) ?_
  refine lv_istore (lv' := [(4, .int 0), (3, .int y_17), (0, .ref qg), (1, .int p1), (2, .int p2)]) hx hb dL_over_5 hl (by decide) rfl (fun ls hl => ?_)
  exact L7 _ _ _ _ _ _ h (Nat.lt_succ_self _) (hP.sub [0] rfl) (hD.sub [0] (by decide) rfl) hS (lv_sub hl [2, 3, 4, 1, 0] rfl)
theorem c_L_over (l : Launch) (D : va_G) (cI : ClassId) (qg : Nat) (sz : Nat) (fg : Nat → Int32) (p1 : Int32) (p2 : Int32) (hpre : ∃ r c N k : Nat, gok (fg 0) (fg 1) r c N ∧ k < N ∧ p1 = nI k ∧ sm N p2) : Met l yL_over wsL_over ({ frames := 1, cells := 0, slots := 0, locals := 24 } : Room) (ff_Pc D [(cI, .int)] [.ref qg, .int p1, .int p2] ([(qg, .inl (cI, 3, .inl fg))] : va_W) sz) (va_Qi (fun (r : Int32) (u : Unit) => r = gw (fg 0) (fg 1) p2 (zbit p1)) (fun (u : Unit) t => ff_B D [(cI, .int)] (va_A ([(qg, .inl (cI, 3, .inl fg))] : va_W) sz) [(qg, .inl (cI, 3, .inl fg))] t) (va_A ([(qg, .inl (cI, 3, .inl fg))] : va_W) sz)) 0 0 (va_A ([(qg, .inl (cI, 3, .inl fg))] : va_W) sz) :=
  a_L_over l D cI qg sz fg p1 p2 _ (I_L_over_7 fg p1 p2) (mu_L_over_7 fg p1 p2) (I_L_over_19 fg p1 p2) (mu_L_over_19 fg p1 p2) (I_L_over_34 fg p1 p2) (mu_L_over_34 fg p1 p2) (pl_L_over_7 fg p1 p2 hpre) (pl_L_over_19 fg p1 p2 hpre) (pl_L_over_34 fg p1 p2 hpre) (pe_L_over fg p1 p2 hpre)
set_option maxHeartbeats 4000000 in
set_option maxRecDepth 100000 in
theorem a_L_cellsOf (l : Launch) (D : va_G) (cI : ClassId) (qb qg : Nat) (sz : Nat) (fb : Nat → Int32) (fg : Nat → Int32) (p2 : Int32) (P : Int32 → Unit → Prop) (I5 : Int32 → Int32 → Prop) (mu5 : Int32 → Int32 → Nat) (hv5 : ∀ (x3 : Int32) (x4 : Int32), I5 x3 x4 → vs_L_cellsOf_5 fb fg p2 P (fun (x39 : Int32) (x49 : Int32) => I5 x39 x49 ∧ mu5 x39 x49 < mu5 x3 x4) x3 x4) (he : ve_L_cellsOf fb fg p2 P I5) : Met l yL_cellsOf wsL_cellsOf ({ frames := 0, cells := 0, slots := 0, locals := 0 } : Room) (ff_Pc D [(cI, .int)] [.ref qb, .ref qg, .int p2] ([(qb, .inl (cI, 12, .inl fb)), (qg, .inl (cI, 3, .inl fg))] : va_W) sz) (va_Qi P (fun (u : Unit) t => ff_B D [(cI, .int)] (va_A ([(qb, .inl (cI, 12, .inl fb)), (qg, .inl (cI, 3, .inl fg))] : va_W) sz) [(qb, .inl (cI, 12, .inl fb)), (qg, .inl (cI, 3, .inl fg))] t) (va_A ([(qb, .inl (cI, 12, .inl fb)), (qg, .inl (cI, 3, .inl fg))] : va_W) sz)) 0 0 (va_A ([(qb, .inl (cI, 12, .inl fb)), (qg, .inl (cI, 3, .inl fg))] : va_W) sz) := by
  refine ff_metI (Wf := (fun (u : Unit) => ([(qb, .inl (cI, 12, .inl fb)), (qg, .inl (cI, 3, .inl fg))] : va_W))) (by decide +kernel) rfl (Nat.le_of_ble_eq_true rfl) ?_
  intro p e s m args below meth c A Q ls H hx hb hml hown hts hN hA hK hP hD hS hret hl
  have L5 : ∀ (N : Nat) (x3 : Int32) (x4 : Int32) (H : Heap) (locs : List Loc) (ls : Array Slot), I5 x3 x4 → mu5 x3 x4 < N → va_P D vwCl [(qb, .inl (cI, 12, .inl fb)), (qg, .inl (cI, 3, .inl fg))] H → va_D A [(qb, .inl (cI, 12, .inl fb)), (qg, .inl (cI, 3, .inl fg))] → va_S A s.heap H locs → lv_has ls 5 [(0, .ref qb), (1, .ref qg), (2, .int p2), (3, .int x3), (4, .int x4)] → W p l e ({ frames := 0, cells := 0, slots := 0, locals := 0 } : Room) s m args below meth c H locs 0 0 Q (F0 m 5 ls []) := by
    intro N
    induction N with
    | zero => intros; rename_i hz _ _ _ _; exact absurd hz (Nat.not_lt_zero _)
    | succ N ih =>
      intro x3 x4 H locs ls hI hmu hP hD hS hl
      have h := hv5 x3 x4 hI
      unfold vs_L_cellsOf_5 at h
      refine lv_iload hx hb dL_cellsOf_5 (lv_at hl 4 rfl) ?_
      refine lv_aload_n hx hb dL_cellsOf_7 rfl (lv_at hl 1 rfl) ?_
      refine lv_iconst (v := 0) hx hb dL_cellsOf_8 (by decide) ?_
      refine ff_ialdK hx hb hK hP 1 0 rfl rfl (vp_in_nI (n := 0) (N := 3) (by decide) (by decide)) (k := 0) rfl dL_cellsOf_9 ?_
      refine lv_aload_n hx hb dL_cellsOf_10 rfl (lv_at hl 1 rfl) ?_
      refine lv_iconst (v := 1) hx hb dL_cellsOf_11 (by decide) ?_
      refine ff_ialdK hx hb hK hP 1 0 rfl rfl (vp_in_nI (n := 1) (N := 3) (by decide) (by decide)) (k := 1) rfl dL_cellsOf_12 ?_
      refine lv_imul hx hb dL_cellsOf_13 ?_
      refine lv_icmp_ge (tgt := 42) hx hb dL_cellsOf_14 (by decide) (fun c_1 => ?_) (fun c_1 => ?_)
      · have h := h.1 c_1
        refine lv_iload_n hx hb dL_cellsOf_42 rfl (lv_at hl 3 rfl) ?_
        exact hret x3 () _ _ _ _ _ _ h (hP.sub [0, 1] rfl) (hD.sub [0, 1] (by decide) rfl) hS (Nat.le_of_ble_eq_true rfl) (Nat.le_of_ble_eq_true rfl) dL_cellsOf_43
      · have h := h.2 c_1
        refine lv_iload_n hx hb dL_cellsOf_17 rfl (lv_at hl 3 rfl) ?_
        refine lv_aload_n hx hb dL_cellsOf_18 rfl (lv_at hl 0 rfl) ?_
        refine lv_iload hx hb dL_cellsOf_19 (lv_at hl 4 rfl) ?_
        obtain ⟨i_2, h⟩ := h
        refine va_iald hx hb hK hP 0 0 rfl rfl i_2 dL_cellsOf_21 ?_
        refine lv_iload_n hx hb dL_cellsOf_22 rfl (lv_at hl 2 rfl) ?_
        refine lv_icmp_ne (tgt := 33) hx hb dL_cellsOf_23 (by decide) (fun c_3 => ?_) (fun c_3 => ?_)
        · have h := h.2 c_3
          refine lv_iconst (v := 0) hx hb dL_cellsOf_33 (by decide) ?_
          refine lv_ior hx hb dL_cellsOf_34 ?_
          refine lv_topi (fun y_4 ey_4 => ?_)
          have h := h y_4 ey_4
          refine lv_istore_n (lv' := [(3, .int y_4), (0, .ref qb), (1, .ref qg), (2, .int p2), (4, .int x4)]) hx hb dL_cellsOf_35 rfl hl (by decide) rfl (fun ls hl => ?_)
          obtain ⟨y_5, ey_5⟩ : ∃ y : Int32, y = x4 + 1 := ⟨_, rfl⟩
          have h := h y_5 ey_5
          refine lv_iinc (v := y_5) (lv' := [(4, .int y_5), (3, .int y_4), (0, .ref qb), (1, .ref qg), (2, .int p2)]) hx hb dL_cellsOf_36 hl (k := 4) rfl (by rw [ey_5]; rfl) (by decide) rfl (fun ls hl => ?_)
          refine lv_goto (tgt := 5) hx hb dL_cellsOf_39 (by decide) ?_
          exact ih _ _ _ _ _ h.1 (Nat.lt_of_lt_of_le h.2 (Nat.le_of_lt_succ hmu)) (hP.sub [0, 1] rfl) (hD.sub [0, 1] (by decide) rfl) hS (lv_sub hl [2, 3, 4, 1, 0] rfl)
        · have h := h.1 c_3
          refine lv_iconst (v := 1) hx hb dL_cellsOf_26 (by decide) ?_
          refine lv_iload hx hb dL_cellsOf_27 (lv_at hl 4 rfl) ?_
          refine lv_ishl hx hb dL_cellsOf_29 ?_
          refine lv_goto (tgt := 34) hx hb dL_cellsOf_30 (by decide) ?_
          refine lv_ior hx hb dL_cellsOf_34 ?_
          refine lv_topi (fun y_6 ey_6 => ?_)
          have h := h y_6 ey_6
          refine lv_istore_n (lv' := [(3, .int y_6), (0, .ref qb), (1, .ref qg), (2, .int p2), (4, .int x4)]) hx hb dL_cellsOf_35 rfl hl (by decide) rfl (fun ls hl => ?_)
          obtain ⟨y_7, ey_7⟩ : ∃ y : Int32, y = x4 + 1 := ⟨_, rfl⟩
          have h := h y_7 ey_7
          refine lv_iinc (v := y_7) (lv' := [(4, .int y_7), (3, .int y_6), (0, .ref qb), (1, .ref qg), (2, .int p2)]) hx hb dL_cellsOf_36 hl (k := 4) rfl (by rw [ey_7]; rfl) (by decide) rfl (fun ls hl => ?_)
          refine lv_goto (tgt := 5) hx hb dL_cellsOf_39 (by decide) ?_
          exact ih _ _ _ _ _ h.1 (Nat.lt_of_lt_of_le h.2 (Nat.le_of_lt_succ hmu)) (hP.sub [0, 1] rfl) (hD.sub [0, 1] (by decide) rfl) hS (lv_sub hl [2, 3, 4, 1, 0] rfl)
  have h := he
  unfold ve_L_cellsOf at h
  have hl : lv_has ls 5 [(0, .ref qb), (1, .ref qg), (2, .int p2)] := hl
  refine lv_iconst (v := 0) hx hb dL_cellsOf_0 (by decide) ?_
  refine lv_istore_n (lv' := [(3, .int 0), (0, .ref qb), (1, .ref qg), (2, .int p2)]) hx hb dL_cellsOf_1 rfl hl (by decide) rfl (fun ls hl => ?_)
  refine lv_iconst (v := 0) hx hb dL_cellsOf_2 (by decide) ?_
  refine lv_istore (lv' := [(4, .int 0), (3, .int 0), (0, .ref qb), (1, .ref qg), (2, .int p2)]) hx hb dL_cellsOf_3 hl (by decide) rfl (fun ls hl => ?_)
  exact L5 _ _ _ _ _ _ h (Nat.lt_succ_self _) (hP.sub [0, 1] rfl) (hD.sub [0, 1] (by decide) rfl) hS (lv_sub hl [2, 3, 4, 1, 0] rfl)
theorem c_L_cellsOf (l : Launch) (D : va_G) (cI : ClassId) (qb qg : Nat) (sz : Nat) (fb : Nat → Int32) (fg : Nat → Int32) (p2 : Int32) (hpre : ∃ N : Nat, N ≤ 12 ∧ fg 0 * fg 1 = nI N) : Met l yL_cellsOf wsL_cellsOf ({ frames := 0, cells := 0, slots := 0, locals := 0 } : Room) (ff_Pc D [(cI, .int)] [.ref qb, .ref qg, .int p2] ([(qb, .inl (cI, 12, .inl fb)), (qg, .inl (cI, 3, .inl fg))] : va_W) sz) (va_Qi (fun (r : Int32) (u : Unit) => r = lco fb p2 (mN (fg 0) (fg 1))) (fun (u : Unit) t => ff_B D [(cI, .int)] (va_A ([(qb, .inl (cI, 12, .inl fb)), (qg, .inl (cI, 3, .inl fg))] : va_W) sz) [(qb, .inl (cI, 12, .inl fb)), (qg, .inl (cI, 3, .inl fg))] t) (va_A ([(qb, .inl (cI, 12, .inl fb)), (qg, .inl (cI, 3, .inl fg))] : va_W) sz)) 0 0 (va_A ([(qb, .inl (cI, 12, .inl fb)), (qg, .inl (cI, 3, .inl fg))] : va_W) sz) :=
  a_L_cellsOf l D cI qb qg sz fb fg p2 _ (I_L_cellsOf_5 fb fg p2) (mu_L_cellsOf_5 fb fg p2) (pl_L_cellsOf_5 fb fg p2 hpre) (pe_L_cellsOf fb fg p2 hpre)
set_option maxHeartbeats 4000000 in
set_option maxRecDepth 100000 in
theorem a_L_isSound (l : Launch) (D : va_G) (cI : ClassId) (qb qg : Nat) (sz : Nat) (fb : Nat → Int32) (fg : Nat → Int32) (P : Int32 → Unit → Prop) (I4 : Int32 → Int32 → Prop) (mu4 : Int32 → Int32 → Nat) (hv4 : ∀ (x2 : Int32) (x3 : Int32), I4 x2 x3 → vs_L_isSound_4 fb fg P (fun (x29 : Int32) (x39 : Int32) => I4 x29 x39 ∧ mu4 x29 x39 < mu4 x2 x3) x2 x3) (he : ve_L_isSound fb fg P I4) : Met l yL_isSound wsL_isSound ({ frames := 2, cells := 0, slots := 0, locals := 50 } : Room) (ff_Pc D [(cI, .int)] [.ref qb, .ref qg] ([(qb, .inl (cI, 12, .inl fb)), (qg, .inl (cI, 3, .inl fg))] : va_W) sz) (va_Qi P (fun (u : Unit) t => ff_B D [(cI, .int)] (va_A ([(qb, .inl (cI, 12, .inl fb)), (qg, .inl (cI, 3, .inl fg))] : va_W) sz) [(qb, .inl (cI, 12, .inl fb)), (qg, .inl (cI, 3, .inl fg))] t) (va_A ([(qb, .inl (cI, 12, .inl fb)), (qg, .inl (cI, 3, .inl fg))] : va_W) sz)) 0 0 (va_A ([(qb, .inl (cI, 12, .inl fb)), (qg, .inl (cI, 3, .inl fg))] : va_W) sz) := by
  refine ff_metZ (Wf := (fun (u : Unit) => ([(qb, .inl (cI, 12, .inl fb)), (qg, .inl (cI, 3, .inl fg))] : va_W))) (by decide +kernel) rfl (Nat.le_of_ble_eq_true rfl) ?_
  intro p e s m args below meth c A Q ls H hx hb hml hown hts hN hA hK hP hD hS hret hl
  have L4 : ∀ (N : Nat) (x2 : Int32) (x3 : Int32) (H : Heap) (locs : List Loc) (ls : Array Slot), I4 x2 x3 → mu4 x2 x3 < N → va_P D vwCl [(qb, .inl (cI, 12, .inl fb)), (qg, .inl (cI, 3, .inl fg))] H → va_D A [(qb, .inl (cI, 12, .inl fb)), (qg, .inl (cI, 3, .inl fg))] → va_S A s.heap H locs → lv_has ls 5 [(0, .ref qb), (1, .ref qg), (2, .int x2), (3, .int x3)] → W p l e ({ frames := 2, cells := 0, slots := 0, locals := 50 } : Room) s m args below meth c H locs 0 0 Q (F0 m 4 ls []) := by
    intro N
    induction N with
    | zero => intros; rename_i hz _ _ _ _; exact absurd hz (Nat.not_lt_zero _)
    | succ N ih =>
      intro x2 x3 H locs ls hI hmu hP hD hS hl
      have h := hv4 x2 x3 hI
      unfold vs_L_isSound_4 at h
      refine lv_iload_n hx hb dL_isSound_4 rfl (lv_at hl 3 rfl) ?_
      refine lv_aload_n hx hb dL_isSound_5 rfl (lv_at hl 1 rfl) ?_
      refine lv_iconst (v := 0) hx hb dL_isSound_6 (by decide) ?_
      refine ff_ialdK hx hb hK hP 1 0 rfl rfl (vp_in_nI (n := 0) (N := 3) (by decide) (by decide)) (k := 0) rfl dL_isSound_7 ?_
      refine lv_aload_n hx hb dL_isSound_8 rfl (lv_at hl 1 rfl) ?_
      refine lv_iconst (v := 1) hx hb dL_isSound_9 (by decide) ?_
      refine ff_ialdK hx hb hK hP 1 0 rfl rfl (vp_in_nI (n := 1) (N := 3) (by decide) (by decide)) (k := 1) rfl dL_isSound_10 ?_
      refine lv_imul hx hb dL_isSound_11 ?_
      refine lv_icmp_ge (tgt := 86) hx hb dL_isSound_12 (by decide) (fun c_1 => ?_) (fun c_1 => ?_)
      · have h := h.1 c_1
        refine lv_iload_n hx hb dL_isSound_86 rfl (lv_at hl 2 rfl) ?_
        exact hret x2 () _ _ _ _ _ _ h.1 h.2 (hP.sub [0, 1] rfl) (hD.sub [0, 1] (by decide) rfl) hS (Nat.le_of_ble_eq_true rfl) (Nat.le_of_ble_eq_true rfl) dL_isSound_87
      · have h := h.2 c_1
        refine lv_iload_n hx hb dL_isSound_15 rfl (lv_at hl 2 rfl) ?_
        refine lv_if_eq (tgt := 86) hx hb dL_isSound_16 (by decide) (fun c_2 => ?_) (fun c_2 => ?_)
        · have h := h.1 c_2
          refine lv_iload_n hx hb dL_isSound_86 rfl (lv_at hl 2 rfl) ?_
          exact hret x2 () _ _ _ _ _ _ h.1 h.2 (hP.sub [0, 1] rfl) (hD.sub [0, 1] (by decide) rfl) hS (Nat.le_of_ble_eq_true rfl) (Nat.le_of_ble_eq_true rfl) dL_isSound_87
        · have h := h.2 c_2
          refine lv_aload_n hx hb dL_isSound_19 rfl (lv_at hl 0 rfl) ?_
          refine lv_aload_n hx hb dL_isSound_20 rfl (lv_at hl 1 rfl) ?_
          refine lv_aload_n hx hb dL_isSound_21 rfl (lv_at hl 0 rfl) ?_
          refine lv_iload_n hx hb dL_isSound_22 rfl (lv_at hl 3 rfl) ?_
          obtain ⟨i_3, h⟩ := h
          refine va_iald hx hb hK hP 0 0 rfl rfl i_3 dL_isSound_23 ?_
          obtain ⟨p_4, h⟩ := h
          have hPc := hP.sub (ws' := [(qb, .inl (cI, 12, .inl fb)), (qg, .inl (cI, 3, .inl fg))]) [0, 1] rfl
          have hDc := hD.sub (ws' := [(qb, .inl (cI, 12, .inl fb)), (qg, .inl (cI, 3, .inl fg))]) [0, 1] (by decide) rfl
          refine ff_callI (va_runS (As := [.ref qb, .ref qg, .int (fb x3.toNatClampNeg)]) (rest := []) ⟨hx, hb, hml, hown, hts⟩ (c_L_cellsOf l D cI qb qg H.size fb fg (fb x3.toNatClampNeg) p_4) (va_cwS 3 hts gL_isSound_L_cellsOf rfl rfl rfl (by decide +kernel) ⟨Nat.le_of_ble_eq_true rfl, Nat.le_of_ble_eq_true rfl⟩) (ff_preS hPc hK hDc hN) rfl rfl hl.1 rfl (lv_room (Nat.le_of_ble_eq_true rfl)) dL_isSound_24 ⟨Nat.le_of_ble_eq_true rfl, Nat.le_of_ble_eq_true rfl⟩) hP hD hS hA [0, 1] [] (wr := []) rfl rfl (by decide) (by decide) (fun r u H locs hw hP hD hS => ?_)
          replace hw := hw.symm
          subst hw
          have hP : va_P D vwCl [(qb, .inl (cI, 12, .inl fb)), (qg, .inl (cI, 3, .inl fg))] H := hP
          have hD : va_D A [(qb, .inl (cI, 12, .inl fb)), (qg, .inl (cI, 3, .inl fg))] := hD
          refine lv_topi (fun y_5 ey_5 => ?_)
          have h := h y_5 ey_5
          refine lv_istore (lv' := [(4, .int y_5), (0, .ref qb), (1, .ref qg), (2, .int x2), (3, .int x3)]) hx hb dL_isSound_27 hl (by decide) rfl (fun ls hl => ?_)
          refine lv_aload_n hx hb dL_isSound_29 rfl (lv_at hl 1 rfl) ?_
          refine lv_iload_n hx hb dL_isSound_30 rfl (lv_at hl 4 rfl) ?_
          obtain ⟨i_6, h⟩ := h
          refine va_iald hx hb hK hP 0 0 rfl rfl i_6 dL_isSound_31 ?_
          refine lv_if_eq (tgt := 74) hx hb dL_isSound_32 (by decide) (fun c_7 => ?_) (fun c_7 => ?_)
          · have h := h.1 c_7
            refine lv_iconst (v := 1) hx hb dL_isSound_74 (by decide) ?_
            refine lv_goto (tgt := 79) hx hb dL_isSound_75 (by decide) ?_
            refine lv_istore_n (lv' := [(2, .int 1), (4, .int y_5), (0, .ref qb), (1, .ref qg), (3, .int x3)]) hx hb dL_isSound_79 rfl hl (by decide) rfl (fun ls hl => ?_)
            obtain ⟨y_8, ey_8⟩ : ∃ y : Int32, y = x3 + 1 := ⟨_, rfl⟩
            have h := h y_8 ey_8
            refine lv_iinc (v := y_8) (lv' := [(3, .int y_8), (2, .int 1), (4, .int y_5), (0, .ref qb), (1, .ref qg)]) hx hb dL_isSound_80 hl (k := 4) rfl (by rw [ey_8]; rfl) (by decide) rfl (fun ls hl => ?_)
            refine lv_goto (tgt := 4) hx hb dL_isSound_83 (by decide) ?_
            exact ih _ _ _ _ _ h.1 (Nat.lt_of_lt_of_le h.2 (Nat.le_of_lt_succ hmu)) (hP.sub [0, 1] rfl) (hD.sub [0, 1] (by decide) rfl) hS (lv_sub hl [3, 4, 1, 0] rfl)
          · have h := h.2 c_7
            refine lv_aload_n hx hb dL_isSound_35 rfl (lv_at hl 2 rfl) ?_
            refine lv_iload_n hx hb dL_isSound_36 rfl (lv_at hl 4 rfl) ?_
            refine lv_iload hx hb dL_isSound_37 (lv_at hl 0 rfl) ?_
            obtain ⟨p_9, h⟩ := h
            have hPc := hP.sub (ws' := [(qg, .inl (cI, 3, .inl fg))]) [1] rfl
            have hDc := hD.sub (ws' := [(qg, .inl (cI, 3, .inl fg))]) [1] (by decide) rfl
            refine ff_callI (va_runS (As := [.ref qg, .int x3, .int y_5]) (rest := []) ⟨hx, hb, hml, hown, hts⟩ (c_L_over l D cI qg H.size fg x3 y_5 p_9) (va_cwS 3 hts gL_isSound_L_over rfl rfl rfl (by decide +kernel) ⟨Nat.le_of_ble_eq_true rfl, Nat.le_of_ble_eq_true rfl⟩) (ff_preS hPc hK hDc hN) rfl rfl hl.1 rfl (lv_room (Nat.le_of_ble_eq_true rfl)) dL_isSound_39 ⟨Nat.le_of_ble_eq_true rfl, Nat.le_of_ble_eq_true rfl⟩) hP hD hS hA [1] [0] (wr := [(qb, .inl (cI, 12, .inl fb))]) rfl rfl (by decide) (by decide) (fun r u H locs hw hP hD hS => ?_)
            replace hw := hw.symm
            subst hw
            have hP : va_P D vwCl [(qb, .inl (cI, 12, .inl fb)), (qg, .inl (cI, 3, .inl fg))] H := hP
            have hD : va_D A [(qb, .inl (cI, 12, .inl fb)), (qg, .inl (cI, 3, .inl fg))] := hD
            obtain ⟨p_10, h⟩ := h
            have hPc := hP.sub (ws' := []) [] rfl
            have hDc := hD.sub (ws' := []) [] (by decide) rfl
            refine ff_callI (va_runS (As := [.int (gw (fg 0) (fg 1) y_5 (zbit x3))]) (rest := []) ⟨hx, hb, hml, hown, hts⟩ (c_L_many l D cI H.size (gw (fg 0) (fg 1) y_5 (zbit x3)) p_10) (va_cwS 1 hts gL_isSound_L_many rfl rfl rfl (by decide +kernel) ⟨Nat.le_of_ble_eq_true rfl, Nat.le_of_ble_eq_true rfl⟩) (ff_preS hPc hK hDc hN) rfl rfl hl.1 rfl (lv_room (Nat.le_of_ble_eq_true rfl)) dL_isSound_42 ⟨Nat.le_of_ble_eq_true rfl, Nat.le_of_ble_eq_true rfl⟩) hP hD hS hA [] [0, 1] (wr := [(qb, .inl (cI, 12, .inl fb)), (qg, .inl (cI, 3, .inl fg))]) rfl rfl (by decide) (by decide) (fun r u H locs hw hP hD hS => ?_)
            replace hw := hw.symm
            subst hw
            have hP : va_P D vwCl [(qb, .inl (cI, 12, .inl fb)), (qg, .inl (cI, 3, .inl fg))] H := hP
            have hD : va_D A [(qb, .inl (cI, 12, .inl fb)), (qg, .inl (cI, 3, .inl fg))] := hD
            refine lv_aload_n hx hb dL_isSound_45 rfl (lv_at hl 1 rfl) ?_
            refine lv_iload_n hx hb dL_isSound_46 rfl (lv_at hl 4 rfl) ?_
            obtain ⟨i_11, h⟩ := h
            refine va_iald hx hb hK hP 0 0 rfl rfl i_11 dL_isSound_47 ?_
            refine lv_icmp_gt (tgt := 78) hx hb dL_isSound_48 (by decide) (fun c_12 => ?_) (fun c_12 => ?_)
            · have h := h.1 c_12
              refine lv_iconst (v := 0) hx hb dL_isSound_78 (by decide) ?_
              refine lv_istore_n (lv' := [(2, .int 0), (4, .int y_5), (0, .ref qb), (1, .ref qg), (3, .int x3)]) hx hb dL_isSound_79 rfl hl (by decide) rfl (fun ls hl => ?_)
              obtain ⟨y_13, ey_13⟩ : ∃ y : Int32, y = x3 + 1 := ⟨_, rfl⟩
              have h := h y_13 ey_13
              refine lv_iinc (v := y_13) (lv' := [(3, .int y_13), (2, .int 0), (4, .int y_5), (0, .ref qb), (1, .ref qg)]) hx hb dL_isSound_80 hl (k := 4) rfl (by rw [ey_13]; rfl) (by decide) rfl (fun ls hl => ?_)
              refine lv_goto (tgt := 4) hx hb dL_isSound_83 (by decide) ?_
              exact ih _ _ _ _ _ h.1 (Nat.lt_of_lt_of_le h.2 (Nat.le_of_lt_succ hmu)) (hP.sub [0, 1] rfl) (hD.sub [0, 1] (by decide) rfl) hS (lv_sub hl [3, 4, 1, 0] rfl)
            · have h := h.2 c_12
              refine lv_aload_n hx hb dL_isSound_51 rfl (lv_at hl 2 rfl) ?_
              refine lv_iload_n hx hb dL_isSound_52 rfl (lv_at hl 4 rfl) ?_
              refine lv_iload hx hb dL_isSound_53 (lv_at hl 0 rfl) ?_
              refine lv_aload_n hx hb dL_isSound_55 rfl (lv_at hl 1 rfl) ?_
              refine lv_aload_n hx hb dL_isSound_56 rfl (lv_at hl 2 rfl) ?_
              refine lv_iconst (v := 0) hx hb dL_isSound_57 (by decide) ?_
              obtain ⟨p_14, h⟩ := h
              have hPc := hP.sub (ws' := [(qb, .inl (cI, 12, .inl fb)), (qg, .inl (cI, 3, .inl fg))]) [0, 1] rfl
              have hDc := hD.sub (ws' := [(qb, .inl (cI, 12, .inl fb)), (qg, .inl (cI, 3, .inl fg))]) [0, 1] (by decide) rfl
              refine ff_callI (va_runS (As := [.ref qb, .ref qg, .int 0]) (rest := [.int y_5, .int x3, .ref qg]) ⟨hx, hb, hml, hown, hts⟩ (c_L_cellsOf l D cI qb qg H.size fb fg 0 p_14) (va_cwS 3 hts gL_isSound_L_cellsOf rfl rfl rfl (by decide +kernel) ⟨Nat.le_of_ble_eq_true rfl, Nat.le_of_ble_eq_true rfl⟩) (ff_preS hPc hK hDc hN) rfl rfl hl.1 rfl (lv_room (Nat.le_of_ble_eq_true rfl)) dL_isSound_58 ⟨Nat.le_of_ble_eq_true rfl, Nat.le_of_ble_eq_true rfl⟩) hP hD hS hA [0, 1] [] (wr := []) rfl rfl (by decide) (by decide) (fun r u H locs hw hP hD hS => ?_)
              replace hw := hw.symm
              subst hw
              have hP : va_P D vwCl [(qb, .inl (cI, 12, .inl fb)), (qg, .inl (cI, 3, .inl fg))] H := hP
              have hD : va_D A [(qb, .inl (cI, 12, .inl fb)), (qg, .inl (cI, 3, .inl fg))] := hD
              refine lv_ior hx hb dL_isSound_61 ?_
              obtain ⟨p_15, h⟩ := h
              have hPc := hP.sub (ws' := [(qg, .inl (cI, 3, .inl fg))]) [1] rfl
              have hDc := hD.sub (ws' := [(qg, .inl (cI, 3, .inl fg))]) [1] (by decide) rfl
              refine ff_callI (va_runS (As := [.ref qg, .int x3, .int (y_5 ||| (lco fb 0 (mN (fg 0) (fg 1))))]) (rest := []) ⟨hx, hb, hml, hown, hts⟩ (c_L_over l D cI qg H.size fg x3 (y_5 ||| (lco fb 0 (mN (fg 0) (fg 1)))) p_15) (va_cwS 3 hts gL_isSound_L_over rfl rfl rfl (by decide +kernel) ⟨Nat.le_of_ble_eq_true rfl, Nat.le_of_ble_eq_true rfl⟩) (ff_preS hPc hK hDc hN) rfl rfl hl.1 rfl (lv_room (Nat.le_of_ble_eq_true rfl)) dL_isSound_62 ⟨Nat.le_of_ble_eq_true rfl, Nat.le_of_ble_eq_true rfl⟩) hP hD hS hA [1] [0] (wr := [(qb, .inl (cI, 12, .inl fb))]) rfl rfl (by decide) (by decide) (fun r u H locs hw hP hD hS => ?_)
              replace hw := hw.symm
              subst hw
              have hP : va_P D vwCl [(qb, .inl (cI, 12, .inl fb)), (qg, .inl (cI, 3, .inl fg))] H := hP
              have hD : va_D A [(qb, .inl (cI, 12, .inl fb)), (qg, .inl (cI, 3, .inl fg))] := hD
              obtain ⟨p_16, h⟩ := h
              have hPc := hP.sub (ws' := []) [] rfl
              have hDc := hD.sub (ws' := []) [] (by decide) rfl
              refine ff_callI (va_runS (As := [.int (gw (fg 0) (fg 1) (y_5 ||| (lco fb 0 (mN (fg 0) (fg 1)))) (zbit x3))]) (rest := []) ⟨hx, hb, hml, hown, hts⟩ (c_L_many l D cI H.size (gw (fg 0) (fg 1) (y_5 ||| (lco fb 0 (mN (fg 0) (fg 1)))) (zbit x3)) p_16) (va_cwS 1 hts gL_isSound_L_many rfl rfl rfl (by decide +kernel) ⟨Nat.le_of_ble_eq_true rfl, Nat.le_of_ble_eq_true rfl⟩) (ff_preS hPc hK hDc hN) rfl rfl hl.1 rfl (lv_room (Nat.le_of_ble_eq_true rfl)) dL_isSound_65 ⟨Nat.le_of_ble_eq_true rfl, Nat.le_of_ble_eq_true rfl⟩) hP hD hS hA [] [0, 1] (wr := [(qb, .inl (cI, 12, .inl fb)), (qg, .inl (cI, 3, .inl fg))]) rfl rfl (by decide) (by decide) (fun r u H locs hw hP hD hS => ?_)
              replace hw := hw.symm
              subst hw
              have hP : va_P D vwCl [(qb, .inl (cI, 12, .inl fb)), (qg, .inl (cI, 3, .inl fg))] H := hP
              have hD : va_D A [(qb, .inl (cI, 12, .inl fb)), (qg, .inl (cI, 3, .inl fg))] := hD
              refine lv_aload_n hx hb dL_isSound_68 rfl (lv_at hl 1 rfl) ?_
              refine lv_iload_n hx hb dL_isSound_69 rfl (lv_at hl 4 rfl) ?_
              obtain ⟨i_17, h⟩ := h
              refine va_iald hx hb hK hP 0 0 rfl rfl i_17 dL_isSound_70 ?_
              refine lv_icmp_lt (tgt := 78) hx hb dL_isSound_71 (by decide) (fun c_18 => ?_) (fun c_18 => ?_)
              · have h := h.1 c_18
                refine lv_iconst (v := 0) hx hb dL_isSound_78 (by decide) ?_
                refine lv_istore_n (lv' := [(2, .int 0), (4, .int y_5), (0, .ref qb), (1, .ref qg), (3, .int x3)]) hx hb dL_isSound_79 rfl hl (by decide) rfl (fun ls hl => ?_)
                obtain ⟨y_19, ey_19⟩ : ∃ y : Int32, y = x3 + 1 := ⟨_, rfl⟩
                have h := h y_19 ey_19
                refine lv_iinc (v := y_19) (lv' := [(3, .int y_19), (2, .int 0), (4, .int y_5), (0, .ref qb), (1, .ref qg)]) hx hb dL_isSound_80 hl (k := 4) rfl (by rw [ey_19]; rfl) (by decide) rfl (fun ls hl => ?_)
                refine lv_goto (tgt := 4) hx hb dL_isSound_83 (by decide) ?_
                exact ih _ _ _ _ _ h.1 (Nat.lt_of_lt_of_le h.2 (Nat.le_of_lt_succ hmu)) (hP.sub [0, 1] rfl) (hD.sub [0, 1] (by decide) rfl) hS (lv_sub hl [3, 4, 1, 0] rfl)
              · have h := h.2 c_18
                refine lv_iconst (v := 1) hx hb dL_isSound_74 (by decide) ?_
                refine lv_goto (tgt := 79) hx hb dL_isSound_75 (by decide) ?_
                refine lv_istore_n (lv' := [(2, .int 1), (4, .int y_5), (0, .ref qb), (1, .ref qg), (3, .int x3)]) hx hb dL_isSound_79 rfl hl (by decide) rfl (fun ls hl => ?_)
                obtain ⟨y_20, ey_20⟩ : ∃ y : Int32, y = x3 + 1 := ⟨_, rfl⟩
                have h := h y_20 ey_20
                refine lv_iinc (v := y_20) (lv' := [(3, .int y_20), (2, .int 1), (4, .int y_5), (0, .ref qb), (1, .ref qg)]) hx hb dL_isSound_80 hl (k := 4) rfl (by rw [ey_20]; rfl) (by decide) rfl (fun ls hl => ?_)
                refine lv_goto (tgt := 4) hx hb dL_isSound_83 (by decide) ?_
                exact ih _ _ _ _ _ h.1 (Nat.lt_of_lt_of_le h.2 (Nat.le_of_lt_succ hmu)) (hP.sub [0, 1] rfl) (hD.sub [0, 1] (by decide) rfl) hS (lv_sub hl [3, 4, 1, 0] rfl)
  have h := he
  unfold ve_L_isSound at h
  have hl : lv_has ls 5 [(0, .ref qb), (1, .ref qg)] := hl
  refine lv_iconst (v := 1) hx hb dL_isSound_0 (by decide) ?_
  refine lv_istore_n (lv' := [(2, .int 1), (0, .ref qb), (1, .ref qg)]) hx hb dL_isSound_1 rfl hl (by decide) rfl (fun ls hl => ?_)
  refine lv_iconst (v := 0) hx hb dL_isSound_2 (by decide) ?_
  refine lv_istore_n (lv' := [(3, .int 0), (2, .int 1), (0, .ref qb), (1, .ref qg)]) hx hb dL_isSound_3 rfl hl (by decide) rfl (fun ls hl => ?_)
  exact L4 _ _ _ _ _ _ h (Nat.lt_succ_self _) (hP.sub [0, 1] rfl) (hD.sub [0, 1] (by decide) rfl) hS (lv_sub hl [2, 3, 1, 0] rfl)
theorem c_L_isSound (l : Launch) (D : va_G) (cI : ClassId) (qb qg : Nat) (sz : Nat) (fb : Nat → Int32) (fg : Nat → Int32) (hpre : PG fb fg) : Met l yL_isSound wsL_isSound ({ frames := 2, cells := 0, slots := 0, locals := 50 } : Room) (ff_Pc D [(cI, .int)] [.ref qb, .ref qg] ([(qb, .inl (cI, 12, .inl fb)), (qg, .inl (cI, 3, .inl fg))] : va_W) sz) (va_Qi (fun (r : Int32) (u : Unit) => r = b2i (lso fb fg)) (fun (u : Unit) t => ff_B D [(cI, .int)] (va_A ([(qb, .inl (cI, 12, .inl fb)), (qg, .inl (cI, 3, .inl fg))] : va_W) sz) [(qb, .inl (cI, 12, .inl fb)), (qg, .inl (cI, 3, .inl fg))] t) (va_A ([(qb, .inl (cI, 12, .inl fb)), (qg, .inl (cI, 3, .inl fg))] : va_W) sz)) 0 0 (va_A ([(qb, .inl (cI, 12, .inl fb)), (qg, .inl (cI, 3, .inl fg))] : va_W) sz) :=
  a_L_isSound l D cI qb qg sz fb fg _ (I_L_isSound_4 fb fg) (mu_L_isSound_4 fb fg) (pl_L_isSound_4 fb fg hpre) (pe_L_isSound fb fg hpre)
