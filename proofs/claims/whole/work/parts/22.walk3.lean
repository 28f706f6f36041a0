theorem kX5_searches_3 : (.fieldLink RX5 32 "FieldFillerModel" "tried" "[I" : Cond) ∈ wsX5_searches := List.mem_of_getElem? (i := 3) rfl
theorem nX5_searches_wsX50 : ∀ w ∈ wsX50, w ∈ wsX5_searches := (fun w h => List.mem_cons_of_mem _ (List.mem_append_right _ h))
theorem kX5_searches_4 : (.fieldLink RX5 29 "FieldFillerModel" "begins" "[I" : Cond) ∈ wsX5_searches := List.mem_of_getElem? (i := 4) rfl
theorem kX5_searches_2 : (.fieldLink RX5 26 "FieldFillerModel" "open" "[I" : Cond) ∈ wsX5_searches := List.mem_of_getElem? (i := 2) rfl
theorem kX5_searches_1 : (.fieldLink RX5 16 "FieldFillerModel" "board" "[I" : Cond) ∈ wsX5_searches := List.mem_of_getElem? (i := 1) rfl
set_option maxHeartbeats 4000000 in
set_option maxRecDepth 100000 in
theorem a_X5_searches (l : Launch) (D : va_G) (cI : ClassId) (mh mb ml mv mo mg mt mk : Nat) (sz : Nat) (rw : Int32) (co : Int32) (cl : Int32) (fi : Int32) (st : Int64) (th : Int32) (bd : Nat → Int32) (lf : Nat → Int32) (hf : Nat → Int32) (of : Nat → Int32) (gf : Nat → Int32) (tf : Nat → Int32) (kf : Nat → Int32) (p1 : Int32) (p2 : Int32) (P : Int32 → ((Nat → Int32) × (Nat → Int32) × (Nat → Int32) × (Nat → Int32)) → Prop) (I5 : Int32 → Int32 → (Nat → Int32) → (Nat → Int32) → (Nat → Int32) → (Nat → Int32) → Prop) (mu5 : Int32 → Int32 → (Nat → Int32) → (Nat → Int32) → (Nat → Int32) → (Nat → Int32) → Nat) (I54 : Int32 → Int32 → Int32 → (Nat → Int32) → (Nat → Int32) → (Nat → Int32) → (Nat → Int32) → Prop) (mu54 : Int32 → Int32 → Int32 → (Nat → Int32) → (Nat → Int32) → (Nat → Int32) → (Nat → Int32) → Nat) (hv5 : ∀ (x3 : Int32) (x4 : Int32) (bd' : Nat → Int32) (hf' : Nat → Int32) (of' : Nat → Int32) (tf' : Nat → Int32), I5 x3 x4 bd' hf' of' tf' → vs_X5_searches_5 rw co cl fi st th bd lf hf of gf tf kf p1 p2 P (fun (x39 : Int32) (x49 : Int32) (bd9 : Nat → Int32) (hf9 : Nat → Int32) (of9 : Nat → Int32) (tf9 : Nat → Int32) => I5 x39 x49 bd9 hf9 of9 tf9 ∧ mu5 x39 x49 bd9 hf9 of9 tf9 < mu5 x3 x4 bd' hf' of' tf') I54 x3 x4 bd' hf' of' tf') (hv54 : ∀ (x3 : Int32) (x4 : Int32) (x5 : Int32) (bd' : Nat → Int32) (hf' : Nat → Int32) (of' : Nat → Int32) (tf' : Nat → Int32), I54 x3 x4 x5 bd' hf' of' tf' → vs_X5_searches_54 rw co cl fi st th bd lf hf of gf tf kf p1 p2 P I5 (fun (x39 : Int32) (x49 : Int32) (x59 : Int32) (bd9 : Nat → Int32) (hf9 : Nat → Int32) (of9 : Nat → Int32) (tf9 : Nat → Int32) => I54 x39 x49 x59 bd9 hf9 of9 tf9 ∧ mu54 x39 x49 x59 bd9 hf9 of9 tf9 < mu54 x3 x4 x5 bd' hf' of' tf') x3 x4 x5 bd' hf' of' tf') (he : ve_X5_searches rw co cl fi st th bd lf hf of gf tf kf p1 p2 P I5 I54) : Met l yX5_searches wsX5_searches ({ frames := 6, cells := 0, slots := 0, locals := 134 } : Room) (ff_Pc D [(cI, .int)] [.ref mh, .int p1, .int p2] ([(mh, .inr (5, [.int rw, .int co, .ref mb, .int cl, .int fi, .ref ml, .ref mv, .ref mo, .ref mg, .ref mt, .ref mk, .long st, .int th])), (mb, .inl (cI, 12, .inl bd)), (ml, .inl (cI, 12, .inl lf)), (mv, .inl (cI, 10, .inl hf)), (mo, .inl (cI, 12, .inl of)), (mg, .inl (cI, 12, .inl gf)), (mt, .inl (cI, 12, .inl tf)), (mk, .inl (cI, 12, .inl kf))] : va_W) sz) (va_Qi P (fun (u : (Nat → Int32) × (Nat → Int32) × (Nat → Int32) × (Nat → Int32)) t => ff_B D [(cI, .int)] (va_A ([(mh, .inr (5, [.int rw, .int co, .ref mb, .int cl, .int fi, .ref ml, .ref mv, .ref mo, .ref mg, .ref mt, .ref mk, .long st, .int th])), (mb, .inl (cI, 12, .inl bd)), (ml, .inl (cI, 12, .inl lf)), (mv, .inl (cI, 10, .inl hf)), (mo, .inl (cI, 12, .inl of)), (mg, .inl (cI, 12, .inl gf)), (mt, .inl (cI, 12, .inl tf)), (mk, .inl (cI, 12, .inl kf))] : va_W) sz) [(mh, .inr (5, [.int rw, .int co, .ref mb, .int cl, .int fi, .ref ml, .ref mv, .ref mo, .ref mg, .ref mt, .ref mk, .long st, .int th])), (mb, .inl (cI, 12, .inl (u.1))), (ml, .inl (cI, 12, .inl lf)), (mv, .inl (cI, 10, .inl (u.2.1))), (mo, .inl (cI, 12, .inl (u.2.2.1))), (mg, .inl (cI, 12, .inl gf)), (mt, .inl (cI, 12, .inl (u.2.2.2))), (mk, .inl (cI, 12, .inl kf))] t) (va_A ([(mh, .inr (5, [.int rw, .int co, .ref mb, .int cl, .int fi, .ref ml, .ref mv, .ref mo, .ref mg, .ref mt, .ref mk, .long st, .int th])), (mb, .inl (cI, 12, .inl bd)), (ml, .inl (cI, 12, .inl lf)), (mv, .inl (cI, 10, .inl hf)), (mo, .inl (cI, 12, .inl of)), (mg, .inl (cI, 12, .inl gf)), (mt, .inl (cI, 12, .inl tf)), (mk, .inl (cI, 12, .inl kf))] : va_W) sz)) 0 0 (va_A ([(mh, .inr (5, [.int rw, .int co, .ref mb, .int cl, .int fi, .ref ml, .ref mv, .ref mo, .ref mg, .ref mt, .ref mk, .long st, .int th])), (mb, .inl (cI, 12, .inl bd)), (ml, .inl (cI, 12, .inl lf)), (mv, .inl (cI, 10, .inl hf)), (mo, .inl (cI, 12, .inl of)), (mg, .inl (cI, 12, .inl gf)), (mt, .inl (cI, 12, .inl tf)), (mk, .inl (cI, 12, .inl kf))] : va_W) sz) := by
  refine ff_metI (Wf := (fun (u : (Nat → Int32) × (Nat → Int32) × (Nat → Int32) × (Nat → Int32)) => ([(mh, .inr (5, [.int rw, .int co, .ref mb, .int cl, .int fi, .ref ml, .ref mv, .ref mo, .ref mg, .ref mt, .ref mk, .long st, .int th])), (mb, .inl (cI, 12, .inl (u.1))), (ml, .inl (cI, 12, .inl lf)), (mv, .inl (cI, 10, .inl (u.2.1))), (mo, .inl (cI, 12, .inl (u.2.2.1))), (mg, .inl (cI, 12, .inl gf)), (mt, .inl (cI, 12, .inl (u.2.2.2))), (mk, .inl (cI, 12, .inl kf))] : va_W))) (by decide +kernel) rfl (Nat.le_of_ble_eq_true rfl) ?_
  intro p e s m args below meth c A Q ls H hx hb hml hown hts hN hA hK hP hD hS hret hl
  have L54 : ∀ (N : Nat) (x3 : Int32) (x4 : Int32) (x5 : Int32) (bd' : Nat → Int32) (hf' : Nat → Int32) (of' : Nat → Int32) (tf' : Nat → Int32) (H : Heap) (locs : List Loc) (ls : Array Slot), I54 x3 x4 x5 bd' hf' of' tf' → mu54 x3 x4 x5 bd' hf' of' tf' < N → va_P D vwCl [(mh, .inr (5, [.int rw, .int co, .ref mb, .int cl, .int fi, .ref ml, .ref mv, .ref mo, .ref mg, .ref mt, .ref mk, .long st, .int th])), (mb, .inl (cI, 12, .inl bd')), (ml, .inl (cI, 12, .inl lf)), (mv, .inl (cI, 10, .inl hf')), (mo, .inl (cI, 12, .inl of')), (mg, .inl (cI, 12, .inl gf)), (mt, .inl (cI, 12, .inl tf')), (mk, .inl (cI, 12, .inl kf))] H → va_D A [(mh, .inr (5, [.int rw, .int co, .ref mb, .int cl, .int fi, .ref ml, .ref mv, .ref mo, .ref mg, .ref mt, .ref mk, .long st, .int th])), (mb, .inl (cI, 12, .inl bd')), (ml, .inl (cI, 12, .inl lf)), (mv, .inl (cI, 10, .inl hf')), (mo, .inl (cI, 12, .inl of')), (mg, .inl (cI, 12, .inl gf)), (mt, .inl (cI, 12, .inl tf')), (mk, .inl (cI, 12, .inl kf))] → va_S A s.heap H locs → lv_has ls 7 [(0, .ref mh), (1, .int p1), (2, .int p2), (3, .int x3), (4, .int x4), (5, .int x5)] → W p l e ({ frames := 6, cells := 0, slots := 0, locals := 134 } : Room) s m args below meth c H locs 0 0 Q (F0 m 54 ls []) := by
    intro N
    induction N with
    | zero => intros; rename_i hz _ _ _ _; exact absurd hz (Nat.not_lt_zero _)
    | succ N ih =>
      intro x3 x4 x5 bd' hf' of' tf' H locs ls hI hmu hP hD hS hl
      have h := hv54 x3 x4 x5 bd' hf' of' tf' hI
      unfold vs_X5_searches_54 at h
      refine lv_iload hx hb dX5_searches_54 (lv_at hl 5 rfl) ?_
      refine lv_if_lt (tgt := 211) hx hb dX5_searches_56 (by decide) (fun c_1 => ?_) (fun c_1 => ?_)
      · have h := h.1 c_1
        refine lv_iload hx hb dX5_searches_211 (lv_at hl 4 rfl) ?_
        exact hret x4 (bd', hf', of', tf') _ _ _ _ _ _ h (hP.sub [0, 1, 2, 3, 4, 5, 6, 7] rfl) (hD.sub [0, 1, 2, 3, 4, 5, 6, 7] (by decide) rfl) hS (Nat.le_of_ble_eq_true rfl) (Nat.le_of_ble_eq_true rfl) dX5_searches_213
      · have h := h.2 c_1
        refine lv_iload hx hb dX5_searches_59 (lv_at hl 5 rfl) ?_
        refine lv_iload_n hx hb dX5_searches_61 rfl (lv_at hl 3 rfl) ?_
        refine lv_icmp_ne (tgt := 106) hx hb dX5_searches_62 (by decide) (fun c_2 => ?_) (fun c_2 => ?_)
        · have h := h.2 c_2
          refine lv_aload_n hx hb dX5_searches_106 rfl (lv_at hl 0 rfl) ?_
          refine va_get (D := D) (ci := 5) (v := .ref mt) (C := RX5) (T := TX5) (N := 13) hx hb hts nX5_searches_wsX50 hown hK hP 0 rfl rfl 9 (by decide) (hts _ kX5_searches_3) (fun _ h9 => h9) rfl dX5_searches_107 ?_
          refine lv_iload hx hb dX5_searches_110 (lv_at hl 5 rfl) ?_
          obtain ⟨i_3, h⟩ := h
          refine va_iald hx hb hK hP 6 0 rfl rfl i_3 dX5_searches_112 ?_
          refine lv_bipush (v := 9) hx hb dX5_searches_113 (by decide) ?_
          refine lv_icmp_ne (tgt := 137) hx hb dX5_searches_115 (by decide) (fun c_4 => ?_) (fun c_4 => ?_)
          · have h := h.2 c_4
            refine lv_aload_n hx hb dX5_searches_137 rfl (lv_at hl 0 rfl) ?_
            refine va_get (D := D) (ci := 5) (v := .ref mg) (C := RX5) (T := TX5) (N := 13) hx hb hts nX5_searches_wsX50 hown hK hP 0 rfl rfl 8 (by decide) (hts _ kX5_searches_4) (fun _ h9 => h9) rfl dX5_searches_138 ?_
            refine lv_aload_n hx hb dX5_searches_141 rfl (lv_at hl 0 rfl) ?_
            refine va_get (D := D) (ci := 5) (v := .ref mo) (C := RX5) (T := TX5) (N := 13) hx hb hts nX5_searches_wsX50 hown hK hP 0 rfl rfl 7 (by decide) (hts _ kX5_searches_2) (fun _ h9 => h9) rfl dX5_searches_142 ?_
            refine lv_iload hx hb dX5_searches_145 (lv_at hl 5 rfl) ?_
            obtain ⟨i_5, h⟩ := h
            refine va_iald hx hb hK hP 4 0 rfl rfl i_5 dX5_searches_147 ?_
            obtain ⟨i_6, h⟩ := h
            refine va_iald hx hb hK hP 5 0 rfl rfl i_6 dX5_searches_148 ?_
            refine lv_aload_n hx hb dX5_searches_149 rfl (lv_at hl 0 rfl) ?_
            refine va_get (D := D) (ci := 5) (v := .ref mt) (C := RX5) (T := TX5) (N := 13) hx hb hts nX5_searches_wsX50 hown hK hP 0 rfl rfl 9 (by decide) (hts _ kX5_searches_3) (fun _ h9 => h9) rfl dX5_searches_150 ?_
            refine lv_iload hx hb dX5_searches_153 (lv_at hl 5 rfl) ?_
            obtain ⟨i_7, h⟩ := h
            refine va_iald hx hb hK hP 6 0 rfl rfl i_7 dX5_searches_155 ?_
            refine lv_iadd hx hb dX5_searches_156 ?_
            refine lv_bipush (v := 9) hx hb dX5_searches_157 (by decide) ?_
            refine lv_irem hx hb dX5_searches_159 (by decide) ?_
            refine lv_iconst (v := 1) hx hb dX5_searches_160 (by decide) ?_
            refine lv_iadd hx hb dX5_searches_161 ?_
            refine lv_topi (fun y_8 ey_8 => ?_)
            have h := h y_8 ey_8
            refine lv_istore (lv' := [(6, .int y_8), (0, .ref mh), (1, .int p1), (2, .int p2), (3, .int x3), (4, .int x4), (5, .int x5)]) hx hb dX5_searches_162 hl (by decide) rfl (fun ls hl => ?_)
            refine lv_aload_n hx hb dX5_searches_164 rfl (lv_at hl 1 rfl) ?_
            refine va_get (D := D) (ci := 5) (v := .ref mt) (C := RX5) (T := TX5) (N := 13) hx hb hts nX5_searches_wsX50 hown hK hP 0 rfl rfl 9 (by decide) (hts _ kX5_searches_3) (fun _ h9 => h9) rfl dX5_searches_165 ?_
            refine lv_iload hx hb dX5_searches_168 (lv_at hl 6 rfl) ?_
            refine lv_dup2_11 hx hb dX5_searches_170 rfl rfl ?_
            obtain ⟨i_9, h⟩ := h
            refine va_iald hx hb hK hP 6 0 rfl rfl i_9 dX5_searches_171 ?_
            refine lv_iconst (v := 1) hx hb dX5_searches_172 (by decide) ?_
            refine lv_iadd hx hb dX5_searches_173 ?_
            obtain ⟨i_10, h⟩ := h
            refine va_iast hx hb hK hP hD hS 6 0 rfl rfl i_10 dX5_searches_174 (fun H locs hP hD hS => ?_)
            have hP : va_P D vwCl [(mh, .inr (5, [.int rw, .int co, .ref mb, .int cl, .int fi, .ref ml, .ref mv, .ref mo, .ref mg, .ref mt, .ref mk, .long st, .int th])), (mb, .inl (cI, 12, .inl bd')), (ml, .inl (cI, 12, .inl lf)), (mv, .inl (cI, 10, .inl hf')), (mo, .inl (cI, 12, .inl of')), (mg, .inl (cI, 12, .inl gf)), (mt, .inl (cI, 12, .inl (upd tf' x5.toNatClampNeg ((tf' x5.toNatClampNeg) + 1)))), (mk, .inl (cI, 12, .inl kf))] H := hP
            have hD : va_D A [(mh, .inr (5, [.int rw, .int co, .ref mb, .int cl, .int fi, .ref ml, .ref mv, .ref mo, .ref mg, .ref mt, .ref mk, .long st, .int th])), (mb, .inl (cI, 12, .inl bd')), (ml, .inl (cI, 12, .inl lf)), (mv, .inl (cI, 10, .inl hf')), (mo, .inl (cI, 12, .inl of')), (mg, .inl (cI, 12, .inl gf)), (mt, .inl (cI, 12, .inl (upd tf' x5.toNatClampNeg ((tf' x5.toNatClampNeg) + 1)))), (mk, .inl (cI, 12, .inl kf))] := hD
            refine lv_aload_n hx hb dX5_searches_175 rfl (lv_at hl 1 rfl) ?_
            refine lv_aload_n hx hb dX5_searches_176 rfl (lv_at hl 1 rfl) ?_
            refine va_get (D := D) (ci := 5) (v := .ref mo) (C := RX5) (T := TX5) (N := 13) hx hb hts nX5_searches_wsX50 hown hK hP 0 rfl rfl 7 (by decide) (hts _ kX5_searches_2) (fun _ h9 => h9) rfl dX5_searches_177 ?_
            refine lv_iload hx hb dX5_searches_180 (lv_at hl 6 rfl) ?_
            obtain ⟨i_11, h⟩ := h
            refine va_iald hx hb hK hP 4 0 rfl rfl i_11 dX5_searches_182 ?_
            refine lv_iload hx hb dX5_searches_183 (lv_at hl 0 rfl) ?_
            obtain ⟨p_12, h⟩ := h
            have hPc := hP.sub (ws' := [(mh, .inr (5, [.int rw, .int co, .ref mb, .int cl, .int fi, .ref ml, .ref mv, .ref mo, .ref mg, .ref mt, .ref mk, .long st, .int th])), (mb, .inl (cI, 12, .inl bd')), (ml, .inl (cI, 12, .inl lf)), (mv, .inl (cI, 10, .inl hf')), (mo, .inl (cI, 12, .inl of')), (mg, .inl (cI, 12, .inl gf)), (mt, .inl (cI, 12, .inl (upd tf' x5.toNatClampNeg ((tf' x5.toNatClampNeg) + 1)))), (mk, .inl (cI, 12, .inl kf))]) [0, 1, 2, 3, 4, 5, 6, 7] rfl
            have hDc := hD.sub (ws' := [(mh, .inr (5, [.int rw, .int co, .ref mb, .int cl, .int fi, .ref ml, .ref mv, .ref mo, .ref mg, .ref mt, .ref mk, .long st, .int th])), (mb, .inl (cI, 12, .inl bd')), (ml, .inl (cI, 12, .inl lf)), (mv, .inl (cI, 10, .inl hf')), (mo, .inl (cI, 12, .inl of')), (mg, .inl (cI, 12, .inl gf)), (mt, .inl (cI, 12, .inl (upd tf' x5.toNatClampNeg ((tf' x5.toNatClampNeg) + 1)))), (mk, .inl (cI, 12, .inl kf))]) [0, 1, 2, 3, 4, 5, 6, 7] (by decide) rfl
            refine ff_callI (va_runV (As := [.int (of' x5.toNatClampNeg), .int y_8]) (rest := []) ⟨hx, hb, hml, hown, hts⟩ (c_X5_fits l D cI mh mb ml mv mo mg mt mk H.size rw co cl fi st th bd' lf hf' of' gf (upd tf' x5.toNatClampNeg ((tf' x5.toNatClampNeg) + 1)) kf (of' x5.toNatClampNeg) y_8 p_12) (cwV 2 hts gX5_searches_X5_fits rfl rfl rfl (by decide +kernel) ⟨Nat.le_of_ble_eq_true rfl, Nat.le_of_ble_eq_true rfl⟩) (ff_preV (q := (RX5, TX5, 13)) (ci := 5) (q0 := 0) hPc hK hDc hN rfl rfl) rfl rfl hl.1 rfl (lv_room (Nat.le_of_ble_eq_true rfl)) dX5_searches_185 ⟨Nat.le_of_ble_eq_true rfl, Nat.le_of_ble_eq_true rfl⟩) hP hD hS hA [0, 1, 2, 3, 4, 5, 6, 7] [] (wr := []) rfl rfl (by decide) (by decide) (fun r u H locs hw hP hD hS => ?_)
            obtain ⟨e0_w, e1_w⟩ := hw
            replace e0_w := e0_w.symm
            subst e0_w
            replace e1_w := e1_w.symm
            subst e1_w
            have hP : va_P D vwCl [(mh, .inr (5, [.int rw, .int co, .ref mb, .int cl, .int fi, .ref ml, .ref mv, .ref mo, .ref mg, .ref mt, .ref mk, .long st, .int th])), (mb, .inl (cI, 12, .inl bd')), (ml, .inl (cI, 12, .inl lf)), (mv, .inl (cI, 10, .inl (mfth rw co bd' hf' (of' x5.toNatClampNeg)))), (mo, .inl (cI, 12, .inl of')), (mg, .inl (cI, 12, .inl gf)), (mt, .inl (cI, 12, .inl (upd tf' x5.toNatClampNeg ((tf' x5.toNatClampNeg) + 1)))), (mk, .inl (cI, 12, .inl kf))] H := hP
            have hD : va_D A [(mh, .inr (5, [.int rw, .int co, .ref mb, .int cl, .int fi, .ref ml, .ref mv, .ref mo, .ref mg, .ref mt, .ref mk, .long st, .int th])), (mb, .inl (cI, 12, .inl bd')), (ml, .inl (cI, 12, .inl lf)), (mv, .inl (cI, 10, .inl (mfth rw co bd' hf' (of' x5.toNatClampNeg)))), (mo, .inl (cI, 12, .inl of')), (mg, .inl (cI, 12, .inl gf)), (mt, .inl (cI, 12, .inl (upd tf' x5.toNatClampNeg ((tf' x5.toNatClampNeg) + 1)))), (mk, .inl (cI, 12, .inl kf))] := hD
            refine lv_if_eq (tgt := 208) hx hb dX5_searches_188 (by decide) (fun c_13 => ?_) (fun c_13 => ?_)
            · have h := h.1 c_13
              refine lv_goto (tgt := 54) hx hb dX5_searches_208 (by decide) ?_
              exact ih _ _ _ _ _ _ _ _ _ _ h.1 (Nat.lt_of_lt_of_le h.2 (Nat.le_of_lt_succ hmu)) (hP.sub [0, 1, 2, 3, 4, 5, 6, 7] rfl) (hD.sub [0, 1, 2, 3, 4, 5, 6, 7] (by decide) rfl) hS (lv_sub hl [1, 2, 3, 4, 5, 6] rfl)
            · have h := h.2 c_13
              refine lv_aload_n hx hb dX5_searches_191 rfl (lv_at hl 1 rfl) ?_
              refine va_get (D := D) (ci := 5) (v := .ref mb) (C := RX5) (T := TX5) (N := 13) hx hb hts nX5_searches_wsX50 hown hK hP 0 rfl rfl 2 (by decide) (hts _ kX5_searches_1) (fun _ h9 => h9) rfl dX5_searches_192 ?_
              refine lv_aload_n hx hb dX5_searches_195 rfl (lv_at hl 1 rfl) ?_
              refine va_get (D := D) (ci := 5) (v := .ref mo) (C := RX5) (T := TX5) (N := 13) hx hb hts nX5_searches_wsX50 hown hK hP 0 rfl rfl 7 (by decide) (hts _ kX5_searches_2) (fun _ h9 => h9) rfl dX5_searches_196 ?_
              refine lv_iload hx hb dX5_searches_199 (lv_at hl 6 rfl) ?_
              obtain ⟨i_14, h⟩ := h
              refine va_iald hx hb hK hP 4 0 rfl rfl i_14 dX5_searches_201 ?_
              refine lv_iload hx hb dX5_searches_202 (lv_at hl 0 rfl) ?_
              obtain ⟨i_15, h⟩ := h
              refine va_iast hx hb hK hP hD hS 1 0 rfl rfl i_15 dX5_searches_204 (fun H locs hP hD hS => ?_)
              have hP : va_P D vwCl [(mh, .inr (5, [.int rw, .int co, .ref mb, .int cl, .int fi, .ref ml, .ref mv, .ref mo, .ref mg, .ref mt, .ref mk, .long st, .int th])), (mb, .inl (cI, 12, .inl (upd bd' (of' x5.toNatClampNeg : Int32).toNatClampNeg y_8))), (ml, .inl (cI, 12, .inl lf)), (mv, .inl (cI, 10, .inl (mfth rw co bd' hf' (of' x5.toNatClampNeg)))), (mo, .inl (cI, 12, .inl of')), (mg, .inl (cI, 12, .inl gf)), (mt, .inl (cI, 12, .inl (upd tf' x5.toNatClampNeg ((tf' x5.toNatClampNeg) + 1)))), (mk, .inl (cI, 12, .inl kf))] H := hP
              have hD : va_D A [(mh, .inr (5, [.int rw, .int co, .ref mb, .int cl, .int fi, .ref ml, .ref mv, .ref mo, .ref mg, .ref mt, .ref mk, .long st, .int th])), (mb, .inl (cI, 12, .inl (upd bd' (of' x5.toNatClampNeg : Int32).toNatClampNeg y_8))), (ml, .inl (cI, 12, .inl lf)), (mv, .inl (cI, 10, .inl (mfth rw co bd' hf' (of' x5.toNatClampNeg)))), (mo, .inl (cI, 12, .inl of')), (mg, .inl (cI, 12, .inl gf)), (mt, .inl (cI, 12, .inl (upd tf' x5.toNatClampNeg ((tf' x5.toNatClampNeg) + 1)))), (mk, .inl (cI, 12, .inl kf))] := hD
              obtain ⟨y_16, ey_16⟩ : ∃ y : Int32, y = x5 + 1 := ⟨_, rfl⟩
              have h := h y_16 ey_16
              refine lv_iinc (v := y_16) (lv' := [(5, .int y_16), (6, .int y_8), (0, .ref mh), (1, .int p1), (2, .int p2), (3, .int x3), (4, .int x4)]) hx hb dX5_searches_205 hl (k := 6) rfl (by rw [ey_16]; rfl) (by decide) rfl (fun ls hl => ?_)
              refine lv_goto (tgt := 54) hx hb dX5_searches_208 (by decide) ?_
              exact ih _ _ _ _ _ _ _ _ _ _ h.1 (Nat.lt_of_lt_of_le h.2 (Nat.le_of_lt_succ hmu)) (hP.sub [0, 1, 2, 3, 4, 5, 6, 7] rfl) (hD.sub [0, 1, 2, 3, 4, 5, 6, 7] (by decide) rfl) hS (lv_sub hl [2, 3, 4, 5, 6, 0] rfl)
          · have h := h.1 c_4
            refine lv_aload_n hx hb dX5_searches_118 rfl (lv_at hl 0 rfl) ?_
            refine va_get (D := D) (ci := 5) (v := .ref mt) (C := RX5) (T := TX5) (N := 13) hx hb hts nX5_searches_wsX50 hown hK hP 0 rfl rfl 9 (by decide) (hts _ kX5_searches_3) (fun _ h9 => h9) rfl dX5_searches_119 ?_
            refine lv_iload hx hb dX5_searches_122 (lv_at hl 5 rfl) ?_
            refine lv_iconst (v := 0) hx hb dX5_searches_124 (by decide) ?_
            obtain ⟨i_17, h⟩ := h
            refine va_iast hx hb hK hP hD hS 6 0 rfl rfl i_17 dX5_searches_125 (fun H locs hP hD hS => ?_)
            have hP : va_P D vwCl [(mh, .inr (5, [.int rw, .int co, .ref mb, .int cl, .int fi, .ref ml, .ref mv, .ref mo, .ref mg, .ref mt, .ref mk, .long st, .int th])), (mb, .inl (cI, 12, .inl bd')), (ml, .inl (cI, 12, .inl lf)), (mv, .inl (cI, 10, .inl hf')), (mo, .inl (cI, 12, .inl of')), (mg, .inl (cI, 12, .inl gf)), (mt, .inl (cI, 12, .inl (upd tf' x5.toNatClampNeg 0))), (mk, .inl (cI, 12, .inl kf))] H := hP
            have hD : va_D A [(mh, .inr (5, [.int rw, .int co, .ref mb, .int cl, .int fi, .ref ml, .ref mv, .ref mo, .ref mg, .ref mt, .ref mk, .long st, .int th])), (mb, .inl (cI, 12, .inl bd')), (ml, .inl (cI, 12, .inl lf)), (mv, .inl (cI, 10, .inl hf')), (mo, .inl (cI, 12, .inl of')), (mg, .inl (cI, 12, .inl gf)), (mt, .inl (cI, 12, .inl (upd tf' x5.toNatClampNeg 0))), (mk, .inl (cI, 12, .inl kf))] := hD
            refine lv_aload_n hx hb dX5_searches_126 rfl (lv_at hl 0 rfl) ?_
            refine lv_iload hx hb dX5_searches_127 (lv_at hl 5 rfl) ?_
            obtain ⟨p_18, h⟩ := h
            have hPc := hP.sub (ws' := [(mh, .inr (5, [.int rw, .int co, .ref mb, .int cl, .int fi, .ref ml, .ref mv, .ref mo, .ref mg, .ref mt, .ref mk, .long st, .int th])), (mb, .inl (cI, 12, .inl bd')), (ml, .inl (cI, 12, .inl lf)), (mv, .inl (cI, 10, .inl hf')), (mo, .inl (cI, 12, .inl of')), (mg, .inl (cI, 12, .inl gf)), (mt, .inl (cI, 12, .inl (upd tf' x5.toNatClampNeg 0))), (mk, .inl (cI, 12, .inl kf))]) [0, 1, 2, 3, 4, 5, 6, 7] rfl
            have hDc := hD.sub (ws' := [(mh, .inr (5, [.int rw, .int co, .ref mb, .int cl, .int fi, .ref ml, .ref mv, .ref mo, .ref mg, .ref mt, .ref mk, .long st, .int th])), (mb, .inl (cI, 12, .inl bd')), (ml, .inl (cI, 12, .inl lf)), (mv, .inl (cI, 10, .inl hf')), (mo, .inl (cI, 12, .inl of')), (mg, .inl (cI, 12, .inl gf)), (mt, .inl (cI, 12, .inl (upd tf' x5.toNatClampNeg 0))), (mk, .inl (cI, 12, .inl kf))]) [0, 1, 2, 3, 4, 5, 6, 7] (by decide) rfl
            refine ff_callI (va_runV (As := [.int x5]) (rest := []) ⟨hx, hb, hml, hown, hts⟩ (c_X5_back l D cI mh mb ml mv mo mg mt mk H.size rw co cl fi st th bd' lf hf' of' gf (upd tf' x5.toNatClampNeg 0) kf x5 p_18) (cwV 1 hts gX5_searches_X5_back rfl rfl rfl (by decide +kernel) ⟨Nat.le_of_ble_eq_true rfl, Nat.le_of_ble_eq_true rfl⟩) (ff_preV (q := (RX5, TX5, 13)) (ci := 5) (q0 := 0) hPc hK hDc hN rfl rfl) rfl rfl hl.1 rfl (lv_room (Nat.le_of_ble_eq_true rfl)) dX5_searches_129 ⟨Nat.le_of_ble_eq_true rfl, Nat.le_of_ble_eq_true rfl⟩) hP hD hS hA [0, 1, 2, 3, 4, 5, 6, 7] [] (wr := []) rfl rfl (by decide) (by decide) (fun r u H locs hw hP hD hS => ?_)
            obtain ⟨e0_w, e1_w⟩ := hw
            replace e0_w := e0_w.symm
            subst e0_w
            replace e1_w := e1_w.symm
            subst e1_w
            have hP : va_P D vwCl [(mh, .inr (5, [.int rw, .int co, .ref mb, .int cl, .int fi, .ref ml, .ref mv, .ref mo, .ref mg, .ref mt, .ref mk, .long st, .int th])), (mb, .inl (cI, 12, .inl (if 0 < x5 then upd bd' (of' (x5 - 1).toNatClampNeg).toNatClampNeg 0 else bd'))), (ml, .inl (cI, 12, .inl lf)), (mv, .inl (cI, 10, .inl hf')), (mo, .inl (cI, 12, .inl of')), (mg, .inl (cI, 12, .inl gf)), (mt, .inl (cI, 12, .inl (upd tf' x5.toNatClampNeg 0))), (mk, .inl (cI, 12, .inl kf))] H := hP
            have hD : va_D A [(mh, .inr (5, [.int rw, .int co, .ref mb, .int cl, .int fi, .ref ml, .ref mv, .ref mo, .ref mg, .ref mt, .ref mk, .long st, .int th])), (mb, .inl (cI, 12, .inl (if 0 < x5 then upd bd' (of' (x5 - 1).toNatClampNeg).toNatClampNeg 0 else bd'))), (ml, .inl (cI, 12, .inl lf)), (mv, .inl (cI, 10, .inl hf')), (mo, .inl (cI, 12, .inl of')), (mg, .inl (cI, 12, .inl gf)), (mt, .inl (cI, 12, .inl (upd tf' x5.toNatClampNeg 0))), (mk, .inl (cI, 12, .inl kf))] := hD
            refine lv_topi (fun y_19 ey_19 => ?_)
            have h := h y_19 ey_19
            refine lv_istore (lv' := [(5, .int y_19), (0, .ref mh), (1, .int p1), (2, .int p2), (3, .int x3), (4, .int x4)]) hx hb dX5_searches_132 hl (by decide) rfl (fun ls hl => ?_)
            refine lv_goto (tgt := 54) hx hb dX5_searches_134 (by decide) ?_
            exact ih _ _ _ _ _ _ _ _ _ _ h.1 (Nat.lt_of_lt_of_le h.2 (Nat.le_of_lt_succ hmu)) (hP.sub [0, 1, 2, 3, 4, 5, 6, 7] rfl) (hD.sub [0, 1, 2, 3, 4, 5, 6, 7] (by decide) rfl) hS (lv_sub hl [1, 2, 3, 4, 5, 0] rfl)
        · have h := h.1 c_2
          obtain ⟨y_20, ey_20⟩ : ∃ y : Int32, y = x4 + 1 := ⟨_, rfl⟩
          have h := h y_20 ey_20
          refine lv_iinc (v := y_20) (lv' := [(4, .int y_20), (0, .ref mh), (1, .int p1), (2, .int p2), (3, .int x3), (5, .int x5)]) hx hb dX5_searches_65 hl (k := 4) rfl (by rw [ey_20]; rfl) (by decide) rfl (fun ls hl => ?_)
          refine lv_iload hx hb dX5_searches_68 (lv_at hl 0 rfl) ?_
          refine lv_iload_n hx hb dX5_searches_70 rfl (lv_at hl 2 rfl) ?_
          refine lv_icmp_ne (tgt := 81) hx hb dX5_searches_71 (by decide) (fun c_21 => ?_) (fun c_21 => ?_)
          · have h := h.2 c_21
            refine lv_iload hx hb dX5_searches_81 (lv_at hl 0 rfl) ?_
            refine lv_iload_n hx hb dX5_searches_83 rfl (lv_at hl 2 rfl) ?_
            refine lv_icmp_ne (tgt := 95) hx hb dX5_searches_84 (by decide) (fun c_22 => ?_) (fun c_22 => ?_)
            · have h := h.2 c_22
              refine lv_aload_n hx hb dX5_searches_95 rfl (lv_at hl 1 rfl) ?_
              refine lv_iload hx hb dX5_searches_96 (lv_at hl 5 rfl) ?_
              obtain ⟨p_23, h⟩ := h
              have hPc := hP.sub (ws' := [(mh, .inr (5, [.int rw, .int co, .ref mb, .int cl, .int fi, .ref ml, .ref mv, .ref mo, .ref mg, .ref mt, .ref mk, .long st, .int th])), (mb, .inl (cI, 12, .inl bd')), (ml, .inl (cI, 12, .inl lf)), (mv, .inl (cI, 10, .inl hf')), (mo, .inl (cI, 12, .inl of')), (mg, .inl (cI, 12, .inl gf)), (mt, .inl (cI, 12, .inl tf')), (mk, .inl (cI, 12, .inl kf))]) [0, 1, 2, 3, 4, 5, 6, 7] rfl
              have hDc := hD.sub (ws' := [(mh, .inr (5, [.int rw, .int co, .ref mb, .int cl, .int fi, .ref ml, .ref mv, .ref mo, .ref mg, .ref mt, .ref mk, .long st, .int th])), (mb, .inl (cI, 12, .inl bd')), (ml, .inl (cI, 12, .inl lf)), (mv, .inl (cI, 10, .inl hf')), (mo, .inl (cI, 12, .inl of')), (mg, .inl (cI, 12, .inl gf)), (mt, .inl (cI, 12, .inl tf')), (mk, .inl (cI, 12, .inl kf))]) [0, 1, 2, 3, 4, 5, 6, 7] (by decide) rfl
              refine ff_callI (va_runV (As := [.int x5]) (rest := []) ⟨hx, hb, hml, hown, hts⟩ (c_X5_back l D cI mh mb ml mv mo mg mt mk H.size rw co cl fi st th bd' lf hf' of' gf tf' kf x5 p_23) (cwV 1 hts gX5_searches_X5_back rfl rfl rfl (by decide +kernel) ⟨Nat.le_of_ble_eq_true rfl, Nat.le_of_ble_eq_true rfl⟩) (ff_preV (q := (RX5, TX5, 13)) (ci := 5) (q0 := 0) hPc hK hDc hN rfl rfl) rfl rfl hl.1 rfl (lv_room (Nat.le_of_ble_eq_true rfl)) dX5_searches_98 ⟨Nat.le_of_ble_eq_true rfl, Nat.le_of_ble_eq_true rfl⟩) hP hD hS hA [0, 1, 2, 3, 4, 5, 6, 7] [] (wr := []) rfl rfl (by decide) (by decide) (fun r u H locs hw hP hD hS => ?_)
              obtain ⟨e0_w, e1_w⟩ := hw
              replace e0_w := e0_w.symm
              subst e0_w
              replace e1_w := e1_w.symm
              subst e1_w
              have hP : va_P D vwCl [(mh, .inr (5, [.int rw, .int co, .ref mb, .int cl, .int fi, .ref ml, .ref mv, .ref mo, .ref mg, .ref mt, .ref mk, .long st, .int th])), (mb, .inl (cI, 12, .inl (if 0 < x5 then upd bd' (of' (x5 - 1).toNatClampNeg).toNatClampNeg 0 else bd'))), (ml, .inl (cI, 12, .inl lf)), (mv, .inl (cI, 10, .inl hf')), (mo, .inl (cI, 12, .inl of')), (mg, .inl (cI, 12, .inl gf)), (mt, .inl (cI, 12, .inl tf')), (mk, .inl (cI, 12, .inl kf))] H := hP
              have hD : va_D A [(mh, .inr (5, [.int rw, .int co, .ref mb, .int cl, .int fi, .ref ml, .ref mv, .ref mo, .ref mg, .ref mt, .ref mk, .long st, .int th])), (mb, .inl (cI, 12, .inl (if 0 < x5 then upd bd' (of' (x5 - 1).toNatClampNeg).toNatClampNeg 0 else bd'))), (ml, .inl (cI, 12, .inl lf)), (mv, .inl (cI, 10, .inl hf')), (mo, .inl (cI, 12, .inl of')), (mg, .inl (cI, 12, .inl gf)), (mt, .inl (cI, 12, .inl tf')), (mk, .inl (cI, 12, .inl kf))] := hD
              refine lv_topi (fun y_24 ey_24 => ?_)
              have h := h y_24 ey_24
              refine lv_istore (lv' := [(5, .int y_24), (4, .int y_20), (0, .ref mh), (1, .int p1), (2, .int p2), (3, .int x3)]) hx hb dX5_searches_101 hl (by decide) rfl (fun ls hl => ?_)
              refine lv_goto (tgt := 54) hx hb dX5_searches_103 (by decide) ?_
              exact ih _ _ _ _ _ _ _ _ _ _ h.1 (Nat.lt_of_lt_of_le h.2 (Nat.le_of_lt_succ hmu)) (hP.sub [0, 1, 2, 3, 4, 5, 6, 7] rfl) (hD.sub [0, 1, 2, 3, 4, 5, 6, 7] (by decide) rfl) hS (lv_sub hl [2, 3, 4, 5, 1, 0] rfl)
            · have h := h.1 c_22
              refine lv_aload_n hx hb dX5_searches_87 rfl (lv_at hl 1 rfl) ?_
              refine lv_iload_n hx hb dX5_searches_88 rfl (lv_at hl 4 rfl) ?_
              obtain ⟨p_25, h⟩ := h
              have hPc := hP.sub (ws' := [(mh, .inr (5, [.int rw, .int co, .ref mb, .int cl, .int fi, .ref ml, .ref mv, .ref mo, .ref mg, .ref mt, .ref mk, .long st, .int th])), (mb, .inl (cI, 12, .inl bd')), (ml, .inl (cI, 12, .inl lf)), (mv, .inl (cI, 10, .inl hf')), (mo, .inl (cI, 12, .inl of')), (mg, .inl (cI, 12, .inl gf)), (mt, .inl (cI, 12, .inl tf')), (mk, .inl (cI, 12, .inl kf))]) [0, 1, 2, 3, 4, 5, 6, 7] rfl
              have hDc := hD.sub (ws' := [(mh, .inr (5, [.int rw, .int co, .ref mb, .int cl, .int fi, .ref ml, .ref mv, .ref mo, .ref mg, .ref mt, .ref mk, .long st, .int th])), (mb, .inl (cI, 12, .inl bd')), (ml, .inl (cI, 12, .inl lf)), (mv, .inl (cI, 10, .inl hf')), (mo, .inl (cI, 12, .inl of')), (mg, .inl (cI, 12, .inl gf)), (mt, .inl (cI, 12, .inl tf')), (mk, .inl (cI, 12, .inl kf))]) [0, 1, 2, 3, 4, 5, 6, 7] (by decide) rfl
              refine ff_callI (va_runV (As := [.int x3]) (rest := []) ⟨hx, hb, hml, hown, hts⟩ (c_X5_clears l D cI mh mb ml mv mo mg mt mk H.size rw co cl fi st th bd' lf hf' of' gf tf' kf x3 p_25) (cwV 1 hts gX5_searches_X5_clears rfl rfl rfl (by decide +kernel) ⟨Nat.le_of_ble_eq_true rfl, Nat.le_of_ble_eq_true rfl⟩) (ff_preV (q := (RX5, TX5, 13)) (ci := 5) (q0 := 0) hPc hK hDc hN rfl rfl) rfl rfl hl.1 rfl (lv_room (Nat.le_of_ble_eq_true rfl)) dX5_searches_89 ⟨Nat.le_of_ble_eq_true rfl, Nat.le_of_ble_eq_true rfl⟩) hP hD hS hA [0, 1, 2, 3, 4, 5, 6, 7] [] (wr := []) rfl rfl (by decide) (by decide) (fun r u H locs hw hP hD hS => ?_)
              obtain ⟨e0_w, e1_w⟩ := hw
              replace e0_w := e0_w.symm
              subst e0_w
              replace e1_w := e1_w.symm
              subst e1_w
              have hP : va_P D vwCl [(mh, .inr (5, [.int rw, .int co, .ref mb, .int cl, .int fi, .ref ml, .ref mv, .ref mo, .ref mg, .ref mt, .ref mk, .long st, .int th])), (mb, .inl (cI, 12, .inl (mem bd' of' x3.toNatClampNeg))), (ml, .inl (cI, 12, .inl lf)), (mv, .inl (cI, 10, .inl hf')), (mo, .inl (cI, 12, .inl of')), (mg, .inl (cI, 12, .inl gf)), (mt, .inl (cI, 12, .inl tf')), (mk, .inl (cI, 12, .inl kf))] H := hP
              have hD : va_D A [(mh, .inr (5, [.int rw, .int co, .ref mb, .int cl, .int fi, .ref ml, .ref mv, .ref mo, .ref mg, .ref mt, .ref mk, .long st, .int th])), (mb, .inl (cI, 12, .inl (mem bd' of' x3.toNatClampNeg))), (ml, .inl (cI, 12, .inl lf)), (mv, .inl (cI, 10, .inl hf')), (mo, .inl (cI, 12, .inl of')), (mg, .inl (cI, 12, .inl gf)), (mt, .inl (cI, 12, .inl tf')), (mk, .inl (cI, 12, .inl kf))] := hD
              refine lv_goto (tgt := 101) hx hb dX5_searches_92 (by decide) ?_
              refine lv_istore (lv' := [(5, .int (-1)), (4, .int y_20), (0, .ref mh), (1, .int p1), (2, .int p2), (3, .int x3)]) hx hb dX5_searches_101 hl (by decide) rfl (fun ls hl => ?_)
              refine lv_goto (tgt := 54) hx hb dX5_searches_103 (by decide) ?_
              exact ih _ _ _ _ _ _ _ _ _ _ h.1 (Nat.lt_of_lt_of_le h.2 (Nat.le_of_lt_succ hmu)) (hP.sub [0, 1, 2, 3, 4, 5, 6, 7] rfl) (hD.sub [0, 1, 2, 3, 4, 5, 6, 7] (by decide) rfl) hS (lv_sub hl [2, 3, 4, 5, 1, 0] rfl)
          · have h := h.1 c_21
            refine lv_iload_n hx hb dX5_searches_74 rfl (lv_at hl 3 rfl) ?_
            refine lv_if_eq (tgt := 81) hx hb dX5_searches_75 (by decide) (fun c_26 => ?_) (fun c_26 => ?_)
            · have h := h.1 c_26
              refine lv_iload hx hb dX5_searches_81 (lv_at hl 0 rfl) ?_
              refine lv_iload_n hx hb dX5_searches_83 rfl (lv_at hl 2 rfl) ?_
              refine lv_icmp_ne (tgt := 95) hx hb dX5_searches_84 (by decide) (fun c_27 => ?_) (fun c_27 => ?_)
              · have h := h.2 c_27
                refine lv_aload_n hx hb dX5_searches_95 rfl (lv_at hl 1 rfl) ?_
                refine lv_iload hx hb dX5_searches_96 (lv_at hl 5 rfl) ?_
                obtain ⟨p_28, h⟩ := h
                have hPc := hP.sub (ws' := [(mh, .inr (5, [.int rw, .int co, .ref mb, .int cl, .int fi, .ref ml, .ref mv, .ref mo, .ref mg, .ref mt, .ref mk, .long st, .int th])), (mb, .inl (cI, 12, .inl bd')), (ml, .inl (cI, 12, .inl lf)), (mv, .inl (cI, 10, .inl hf')), (mo, .inl (cI, 12, .inl of')), (mg, .inl (cI, 12, .inl gf)), (mt, .inl (cI, 12, .inl tf')), (mk, .inl (cI, 12, .inl kf))]) [0, 1, 2, 3, 4, 5, 6, 7] rfl
                have hDc := hD.sub (ws' := [(mh, .inr (5, [.int rw, .int co, .ref mb, .int cl, .int fi, .ref ml, .ref mv, .ref mo, .ref mg, .ref mt, .ref mk, .long st, .int th])), (mb, .inl (cI, 12, .inl bd')), (ml, .inl (cI, 12, .inl lf)), (mv, .inl (cI, 10, .inl hf')), (mo, .inl (cI, 12, .inl of')), (mg, .inl (cI, 12, .inl gf)), (mt, .inl (cI, 12, .inl tf')), (mk, .inl (cI, 12, .inl kf))]) [0, 1, 2, 3, 4, 5, 6, 7] (by decide) rfl
                refine ff_callI (va_runV (As := [.int x5]) (rest := []) ⟨hx, hb, hml, hown, hts⟩ (c_X5_back l D cI mh mb ml mv mo mg mt mk H.size rw co cl fi st th bd' lf hf' of' gf tf' kf x5 p_28) (cwV 1 hts gX5_searches_X5_back rfl rfl rfl (by decide +kernel) ⟨Nat.le_of_ble_eq_true rfl, Nat.le_of_ble_eq_true rfl⟩) (ff_preV (q := (RX5, TX5, 13)) (ci := 5) (q0 := 0) hPc hK hDc hN rfl rfl) rfl rfl hl.1 rfl (lv_room (Nat.le_of_ble_eq_true rfl)) dX5_searches_98 ⟨Nat.le_of_ble_eq_true rfl, Nat.le_of_ble_eq_true rfl⟩) hP hD hS hA [0, 1, 2, 3, 4, 5, 6, 7] [] (wr := []) rfl rfl (by decide) (by decide) (fun r u H locs hw hP hD hS => ?_)
                obtain ⟨e0_w, e1_w⟩ := hw
                replace e0_w := e0_w.symm
                subst e0_w
                replace e1_w := e1_w.symm
                subst e1_w
                have hP : va_P D vwCl [(mh, .inr (5, [.int rw, .int co, .ref mb, .int cl, .int fi, .ref ml, .ref mv, .ref mo, .ref mg, .ref mt, .ref mk, .long st, .int th])), (mb, .inl (cI, 12, .inl (if 0 < x5 then upd bd' (of' (x5 - 1).toNatClampNeg).toNatClampNeg 0 else bd'))), (ml, .inl (cI, 12, .inl lf)), (mv, .inl (cI, 10, .inl hf')), (mo, .inl (cI, 12, .inl of')), (mg, .inl (cI, 12, .inl gf)), (mt, .inl (cI, 12, .inl tf')), (mk, .inl (cI, 12, .inl kf))] H := hP
                have hD : va_D A [(mh, .inr (5, [.int rw, .int co, .ref mb, .int cl, .int fi, .ref ml, .ref mv, .ref mo, .ref mg, .ref mt, .ref mk, .long st, .int th])), (mb, .inl (cI, 12, .inl (if 0 < x5 then upd bd' (of' (x5 - 1).toNatClampNeg).toNatClampNeg 0 else bd'))), (ml, .inl (cI, 12, .inl lf)), (mv, .inl (cI, 10, .inl hf')), (mo, .inl (cI, 12, .inl of')), (mg, .inl (cI, 12, .inl gf)), (mt, .inl (cI, 12, .inl tf')), (mk, .inl (cI, 12, .inl kf))] := hD
                refine lv_topi (fun y_29 ey_29 => ?_)
                have h := h y_29 ey_29
                refine lv_istore (lv' := [(5, .int y_29), (4, .int y_20), (0, .ref mh), (1, .int p1), (2, .int p2), (3, .int x3)]) hx hb dX5_searches_101 hl (by decide) rfl (fun ls hl => ?_)
                refine lv_goto (tgt := 54) hx hb dX5_searches_103 (by decide) ?_
                exact ih _ _ _ _ _ _ _ _ _ _ h.1 (Nat.lt_of_lt_of_le h.2 (Nat.le_of_lt_succ hmu)) (hP.sub [0, 1, 2, 3, 4, 5, 6, 7] rfl) (hD.sub [0, 1, 2, 3, 4, 5, 6, 7] (by decide) rfl) hS (lv_sub hl [2, 3, 4, 5, 1, 0] rfl)
              · have h := h.1 c_27
                refine lv_aload_n hx hb dX5_searches_87 rfl (lv_at hl 1 rfl) ?_
                refine lv_iload_n hx hb dX5_searches_88 rfl (lv_at hl 4 rfl) ?_
                obtain ⟨p_30, h⟩ := h
                have hPc := hP.sub (ws' := [(mh, .inr (5, [.int rw, .int co, .ref mb, .int cl, .int fi, .ref ml, .ref mv, .ref mo, .ref mg, .ref mt, .ref mk, .long st, .int th])), (mb, .inl (cI, 12, .inl bd')), (ml, .inl (cI, 12, .inl lf)), (mv, .inl (cI, 10, .inl hf')), (mo, .inl (cI, 12, .inl of')), (mg, .inl (cI, 12, .inl gf)), (mt, .inl (cI, 12, .inl tf')), (mk, .inl (cI, 12, .inl kf))]) [0, 1, 2, 3, 4, 5, 6, 7] rfl
                have hDc := hD.sub (ws' := [(mh, .inr (5, [.int rw, .int co, .ref mb, .int cl, .int fi, .ref ml, .ref mv, .ref mo, .ref mg, .ref mt, .ref mk, .long st, .int th])), (mb, .inl (cI, 12, .inl bd')), (ml, .inl (cI, 12, .inl lf)), (mv, .inl (cI, 10, .inl hf')), (mo, .inl (cI, 12, .inl of')), (mg, .inl (cI, 12, .inl gf)), (mt, .inl (cI, 12, .inl tf')), (mk, .inl (cI, 12, .inl kf))]) [0, 1, 2, 3, 4, 5, 6, 7] (by decide) rfl
                refine ff_callI (va_runV (As := [.int x3]) (rest := []) ⟨hx, hb, hml, hown, hts⟩ (c_X5_clears l D cI mh mb ml mv mo mg mt mk H.size rw co cl fi st th bd' lf hf' of' gf tf' kf x3 p_30) (cwV 1 hts gX5_searches_X5_clears rfl rfl rfl (by decide +kernel) ⟨Nat.le_of_ble_eq_true rfl, Nat.le_of_ble_eq_true rfl⟩) (ff_preV (q := (RX5, TX5, 13)) (ci := 5) (q0 := 0) hPc hK hDc hN rfl rfl) rfl rfl hl.1 rfl (lv_room (Nat.le_of_ble_eq_true rfl)) dX5_searches_89 ⟨Nat.le_of_ble_eq_true rfl, Nat.le_of_ble_eq_true rfl⟩) hP hD hS hA [0, 1, 2, 3, 4, 5, 6, 7] [] (wr := []) rfl rfl (by decide) (by decide) (fun r u H locs hw hP hD hS => ?_)
                obtain ⟨e0_w, e1_w⟩ := hw
                replace e0_w := e0_w.symm
                subst e0_w
                replace e1_w := e1_w.symm
                subst e1_w
                have hP : va_P D vwCl [(mh, .inr (5, [.int rw, .int co, .ref mb, .int cl, .int fi, .ref ml, .ref mv, .ref mo, .ref mg, .ref mt, .ref mk, .long st, .int th])), (mb, .inl (cI, 12, .inl (mem bd' of' x3.toNatClampNeg))), (ml, .inl (cI, 12, .inl lf)), (mv, .inl (cI, 10, .inl hf')), (mo, .inl (cI, 12, .inl of')), (mg, .inl (cI, 12, .inl gf)), (mt, .inl (cI, 12, .inl tf')), (mk, .inl (cI, 12, .inl kf))] H := hP
                have hD : va_D A [(mh, .inr (5, [.int rw, .int co, .ref mb, .int cl, .int fi, .ref ml, .ref mv, .ref mo, .ref mg, .ref mt, .ref mk, .long st, .int th])), (mb, .inl (cI, 12, .inl (mem bd' of' x3.toNatClampNeg))), (ml, .inl (cI, 12, .inl lf)), (mv, .inl (cI, 10, .inl hf')), (mo, .inl (cI, 12, .inl of')), (mg, .inl (cI, 12, .inl gf)), (mt, .inl (cI, 12, .inl tf')), (mk, .inl (cI, 12, .inl kf))] := hD
                refine lv_goto (tgt := 101) hx hb dX5_searches_92 (by decide) ?_
                refine lv_istore (lv' := [(5, .int (-1)), (4, .int y_20), (0, .ref mh), (1, .int p1), (2, .int p2), (3, .int x3)]) hx hb dX5_searches_101 hl (by decide) rfl (fun ls hl => ?_)
                refine lv_goto (tgt := 54) hx hb dX5_searches_103 (by decide) ?_
                exact ih _ _ _ _ _ _ _ _ _ _ h.1 (Nat.lt_of_lt_of_le h.2 (Nat.le_of_lt_succ hmu)) (hP.sub [0, 1, 2, 3, 4, 5, 6, 7] rfl) (hD.sub [0, 1, 2, 3, 4, 5, 6, 7] (by decide) rfl) hS (lv_sub hl [2, 3, 4, 5, 1, 0] rfl)
            · have h := h.2 c_26
              refine lv_iload hx hb dX5_searches_78 (lv_at hl 0 rfl) ?_
              exact hret y_20 (bd', hf', of', tf') _ _ _ _ _ _ h (hP.sub [0, 1, 2, 3, 4, 5, 6, 7] rfl) (hD.sub [0, 1, 2, 3, 4, 5, 6, 7] (by decide) rfl) hS (Nat.le_of_ble_eq_true rfl) (Nat.le_of_ble_eq_true rfl) dX5_searches_80
  have L5 : ∀ (N : Nat) (x3 : Int32) (x4 : Int32) (bd' : Nat → Int32) (hf' : Nat → Int32) (of' : Nat → Int32) (tf' : Nat → Int32) (H : Heap) (locs : List Loc) (ls : Array Slot), I5 x3 x4 bd' hf' of' tf' → mu5 x3 x4 bd' hf' of' tf' < N → va_P D vwCl [(mh, .inr (5, [.int rw, .int co, .ref mb, .int cl, .int fi, .ref ml, .ref mv, .ref mo, .ref mg, .ref mt, .ref mk, .long st, .int th])), (mb, .inl (cI, 12, .inl bd')), (ml, .inl (cI, 12, .inl lf)), (mv, .inl (cI, 10, .inl hf')), (mo, .inl (cI, 12, .inl of')), (mg, .inl (cI, 12, .inl gf)), (mt, .inl (cI, 12, .inl tf')), (mk, .inl (cI, 12, .inl kf))] H → va_D A [(mh, .inr (5, [.int rw, .int co, .ref mb, .int cl, .int fi, .ref ml, .ref mv, .ref mo, .ref mg, .ref mt, .ref mk, .long st, .int th])), (mb, .inl (cI, 12, .inl bd')), (ml, .inl (cI, 12, .inl lf)), (mv, .inl (cI, 10, .inl hf')), (mo, .inl (cI, 12, .inl of')), (mg, .inl (cI, 12, .inl gf)), (mt, .inl (cI, 12, .inl tf')), (mk, .inl (cI, 12, .inl kf))] → va_S A s.heap H locs → lv_has ls 7 [(0, .ref mh), (1, .int p1), (2, .int p2), (3, .int x3), (4, .int x4)] → W p l e ({ frames := 6, cells := 0, slots := 0, locals := 134 } : Room) s m args below meth c H locs 0 0 Q (F0 m 5 ls []) := by
    intro N
    induction N with
    | zero => intros; rename_i hz _ _ _ _; exact absurd hz (Nat.not_lt_zero _)
    | succ N ih =>
      intro x3 x4 bd' hf' of' tf' H locs ls hI hmu hP hD hS hl
      have h := hv5 x3 x4 bd' hf' of' tf' hI
      unfold vs_X5_searches_5 at h
      refine lv_iload hx hb dX5_searches_5 (lv_at hl 4 rfl) ?_
      refine lv_aload_n hx hb dX5_searches_7 rfl (lv_at hl 0 rfl) ?_
      have hPc := hP.sub (ws' := [(mh, .inr (5, [.int rw, .int co, .ref mb, .int cl, .int fi, .ref ml, .ref mv, .ref mo, .ref mg, .ref mt, .ref mk, .long st, .int th])), (mb, .inl (cI, 12, .inl bd')), (ml, .inl (cI, 12, .inl lf)), (mv, .inl (cI, 10, .inl hf')), (mo, .inl (cI, 12, .inl of')), (mg, .inl (cI, 12, .inl gf)), (mt, .inl (cI, 12, .inl tf')), (mk, .inl (cI, 12, .inl kf))]) [0, 1, 2, 3, 4, 5, 6, 7] rfl
      have hDc := hD.sub (ws' := [(mh, .inr (5, [.int rw, .int co, .ref mb, .int cl, .int fi, .ref ml, .ref mv, .ref mo, .ref mg, .ref mt, .ref mk, .long st, .int th])), (mb, .inl (cI, 12, .inl bd')), (ml, .inl (cI, 12, .inl lf)), (mv, .inl (cI, 10, .inl hf')), (mo, .inl (cI, 12, .inl of')), (mg, .inl (cI, 12, .inl gf)), (mt, .inl (cI, 12, .inl tf')), (mk, .inl (cI, 12, .inl kf))]) [0, 1, 2, 3, 4, 5, 6, 7] (by decide) rfl
      refine ff_callI (va_runV (As := []) (rest := [.int x4]) ⟨hx, hb, hml, hown, hts⟩ (c_X5_cells l D cI mh mb ml mv mo mg mt mk H.size rw co cl fi st th bd' lf hf' of' gf tf' kf) (cwV 0 hts gX5_searches_X5_cells rfl rfl rfl (by decide +kernel) ⟨Nat.le_of_ble_eq_true rfl, Nat.le_of_ble_eq_true rfl⟩) (ff_preV (q := (RX5, TX5, 13)) (ci := 5) (q0 := 0) hPc hK hDc hN rfl rfl) rfl rfl hl.1 rfl (lv_room (Nat.le_of_ble_eq_true rfl)) dX5_searches_8 ⟨Nat.le_of_ble_eq_true rfl, Nat.le_of_ble_eq_true rfl⟩) hP hD hS hA [0, 1, 2, 3, 4, 5, 6, 7] [] (wr := []) rfl rfl (by decide) (by decide) (fun r u H locs hw hP hD hS => ?_)
      replace hw := hw.symm
      subst hw
      have hP : va_P D vwCl [(mh, .inr (5, [.int rw, .int co, .ref mb, .int cl, .int fi, .ref ml, .ref mv, .ref mo, .ref mg, .ref mt, .ref mk, .long st, .int th])), (mb, .inl (cI, 12, .inl bd')), (ml, .inl (cI, 12, .inl lf)), (mv, .inl (cI, 10, .inl hf')), (mo, .inl (cI, 12, .inl of')), (mg, .inl (cI, 12, .inl gf)), (mt, .inl (cI, 12, .inl tf')), (mk, .inl (cI, 12, .inl kf))] H := hP
      have hD : va_D A [(mh, .inr (5, [.int rw, .int co, .ref mb, .int cl, .int fi, .ref ml, .ref mv, .ref mo, .ref mg, .ref mt, .ref mk, .long st, .int th])), (mb, .inl (cI, 12, .inl bd')), (ml, .inl (cI, 12, .inl lf)), (mv, .inl (cI, 10, .inl hf')), (mo, .inl (cI, 12, .inl of')), (mg, .inl (cI, 12, .inl gf)), (mt, .inl (cI, 12, .inl tf')), (mk, .inl (cI, 12, .inl kf))] := hD
      refine lv_icmp_ge (tgt := 48) hx hb dX5_searches_11 (by decide) (fun c_31 => ?_) (fun c_31 => ?_)
      · have h := h.1 c_31
        refine lv_iconst (v := 0) hx hb dX5_searches_48 (by decide) ?_
        refine lv_istore (lv' := [(4, .int 0), (0, .ref mh), (1, .int p1), (2, .int p2), (3, .int x3)]) hx hb dX5_searches_49 hl (by decide) rfl (fun ls hl => ?_)
        refine lv_iconst (v := 0) hx hb dX5_searches_51 (by decide) ?_
        refine lv_istore (lv' := [(5, .int 0), (4, .int 0), (0, .ref mh), (1, .int p1), (2, .int p2), (3, .int x3)]) hx hb dX5_searches_52 hl (by decide) rfl (fun ls hl => ?_)
        exact L54 _ _ _ _ _ _ _ _ _ _ _ h (Nat.lt_succ_self _) (hP.sub [0, 1, 2, 3, 4, 5, 6, 7] rfl) (hD.sub [0, 1, 2, 3, 4, 5, 6, 7] (by decide) rfl) hS (lv_sub hl [2, 3, 4, 5, 1, 0] rfl)
      · have h := h.2 c_31
        refine lv_aload_n hx hb dX5_searches_14 rfl (lv_at hl 0 rfl) ?_
        refine va_get (D := D) (ci := 5) (v := .ref mb) (C := RX5) (T := TX5) (N := 13) hx hb hts nX5_searches_wsX50 hown hK hP 0 rfl rfl 2 (by decide) (hts _ kX5_searches_1) (fun _ h9 => h9) rfl dX5_searches_15 ?_
        refine lv_iload hx hb dX5_searches_18 (lv_at hl 4 rfl) ?_
        obtain ⟨i_32, h⟩ := h
        refine va_iald hx hb hK hP 1 0 rfl rfl i_32 dX5_searches_20 ?_
        refine lv_if_ne (tgt := 42) hx hb dX5_searches_21 (by decide) (fun c_33 => ?_) (fun c_33 => ?_)
        · have h := h.2 c_33
          obtain ⟨y_34, ey_34⟩ : ∃ y : Int32, y = x4 + 1 := ⟨_, rfl⟩
          have h := h y_34 ey_34
          refine lv_iinc (v := y_34) (lv' := [(4, .int y_34), (0, .ref mh), (1, .int p1), (2, .int p2), (3, .int x3)]) hx hb dX5_searches_42 hl (k := 4) rfl (by rw [ey_34]; rfl) (by decide) rfl (fun ls hl => ?_)
          refine lv_goto (tgt := 5) hx hb dX5_searches_45 (by decide) ?_
          exact ih _ _ _ _ _ _ _ _ _ h.1 (Nat.lt_of_lt_of_le h.2 (Nat.le_of_lt_succ hmu)) (hP.sub [0, 1, 2, 3, 4, 5, 6, 7] rfl) (hD.sub [0, 1, 2, 3, 4, 5, 6, 7] (by decide) rfl) hS (lv_sub hl [1, 2, 3, 4, 0] rfl)
        · have h := h.1 c_33
          refine lv_aload_n hx hb dX5_searches_24 rfl (lv_at hl 0 rfl) ?_
          refine va_get (D := D) (ci := 5) (v := .ref mo) (C := RX5) (T := TX5) (N := 13) hx hb hts nX5_searches_wsX50 hown hK hP 0 rfl rfl 7 (by decide) (hts _ kX5_searches_2) (fun _ h9 => h9) rfl dX5_searches_25 ?_
          refine lv_iload_n hx hb dX5_searches_28 rfl (lv_at hl 3 rfl) ?_
          refine lv_iload hx hb dX5_searches_29 (lv_at hl 4 rfl) ?_
          obtain ⟨i_35, h⟩ := h
          refine va_iast hx hb hK hP hD hS 4 0 rfl rfl i_35 dX5_searches_31 (fun H locs hP hD hS => ?_)
          have hP : va_P D vwCl [(mh, .inr (5, [.int rw, .int co, .ref mb, .int cl, .int fi, .ref ml, .ref mv, .ref mo, .ref mg, .ref mt, .ref mk, .long st, .int th])), (mb, .inl (cI, 12, .inl bd')), (ml, .inl (cI, 12, .inl lf)), (mv, .inl (cI, 10, .inl hf')), (mo, .inl (cI, 12, .inl (upd of' x3.toNatClampNeg x4))), (mg, .inl (cI, 12, .inl gf)), (mt, .inl (cI, 12, .inl tf')), (mk, .inl (cI, 12, .inl kf))] H := hP
          have hD : va_D A [(mh, .inr (5, [.int rw, .int co, .ref mb, .int cl, .int fi, .ref ml, .ref mv, .ref mo, .ref mg, .ref mt, .ref mk, .long st, .int th])), (mb, .inl (cI, 12, .inl bd')), (ml, .inl (cI, 12, .inl lf)), (mv, .inl (cI, 10, .inl hf')), (mo, .inl (cI, 12, .inl (upd of' x3.toNatClampNeg x4))), (mg, .inl (cI, 12, .inl gf)), (mt, .inl (cI, 12, .inl tf')), (mk, .inl (cI, 12, .inl kf))] := hD
          refine lv_aload_n hx hb dX5_searches_32 rfl (lv_at hl 0 rfl) ?_
          refine va_get (D := D) (ci := 5) (v := .ref mt) (C := RX5) (T := TX5) (N := 13) hx hb hts nX5_searches_wsX50 hown hK hP 0 rfl rfl 9 (by decide) (hts _ kX5_searches_3) (fun _ h9 => h9) rfl dX5_searches_33 ?_
          refine lv_iload_n hx hb dX5_searches_36 rfl (lv_at hl 3 rfl) ?_
          refine lv_iconst (v := 0) hx hb dX5_searches_37 (by decide) ?_
          obtain ⟨i_36, h⟩ := h
          refine va_iast hx hb hK hP hD hS 6 0 rfl rfl i_36 dX5_searches_38 (fun H locs hP hD hS => ?_)
          have hP : va_P D vwCl [(mh, .inr (5, [.int rw, .int co, .ref mb, .int cl, .int fi, .ref ml, .ref mv, .ref mo, .ref mg, .ref mt, .ref mk, .long st, .int th])), (mb, .inl (cI, 12, .inl bd')), (ml, .inl (cI, 12, .inl lf)), (mv, .inl (cI, 10, .inl hf')), (mo, .inl (cI, 12, .inl (upd of' x3.toNatClampNeg x4))), (mg, .inl (cI, 12, .inl gf)), (mt, .inl (cI, 12, .inl (upd tf' x3.toNatClampNeg 0))), (mk, .inl (cI, 12, .inl kf))] H := hP
          have hD : va_D A [(mh, .inr (5, [.int rw, .int co, .ref mb, .int cl, .int fi, .ref ml, .ref mv, .ref mo, .ref mg, .ref mt, .ref mk, .long st, .int th])), (mb, .inl (cI, 12, .inl bd')), (ml, .inl (cI, 12, .inl lf)), (mv, .inl (cI, 10, .inl hf')), (mo, .inl (cI, 12, .inl (upd of' x3.toNatClampNeg x4))), (mg, .inl (cI, 12, .inl gf)), (mt, .inl (cI, 12, .inl (upd tf' x3.toNatClampNeg 0))), (mk, .inl (cI, 12, .inl kf))] := hD
          obtain ⟨y_37, ey_37⟩ : ∃ y : Int32, y = x3 + 1 := ⟨_, rfl⟩
          have h := h y_37 ey_37
          refine lv_iinc (v := y_37) (lv' := [(3, .int y_37), (0, .ref mh), (1, .int p1), (2, .int p2), (4, .int x4)]) hx hb dX5_searches_39 hl (k := 3) rfl (by rw [ey_37]; rfl) (by decide) rfl (fun ls hl => ?_)
          obtain ⟨y_38, ey_38⟩ : ∃ y : Int32, y = x4 + 1 := ⟨_, rfl⟩
          have h := h y_38 ey_38
          refine lv_iinc (v := y_38) (lv' := [(4, .int y_38), (3, .int y_37), (0, .ref mh), (1, .int p1), (2, .int p2)]) hx hb dX5_searches_42 hl (k := 4) rfl (by rw [ey_38]; rfl) (by decide) rfl (fun ls hl => ?_)
          refine lv_goto (tgt := 5) hx hb dX5_searches_45 (by decide) ?_
          exact ih _ _ _ _ _ _ _ _ _ h.1 (Nat.lt_of_lt_of_le h.2 (Nat.le_of_lt_succ hmu)) (hP.sub [0, 1, 2, 3, 4, 5, 6, 7] rfl) (hD.sub [0, 1, 2, 3, 4, 5, 6, 7] (by decide) rfl) hS (lv_sub hl [2, 3, 4, 1, 0] rfl)
  have h := he
  unfold ve_X5_searches at h
  have hl : lv_has ls 7 [(0, .ref mh), (1, .int p1), (2, .int p2)] := hl
  refine lv_iconst (v := 0) hx hb dX5_searches_0 (by decide) ?_
  refine lv_istore_n (lv' := [(3, .int 0), (0, .ref mh), (1, .int p1), (2, .int p2)]) hx hb dX5_searches_1 rfl hl (by decide) rfl (fun ls hl => ?_)
  refine lv_iconst (v := 0) hx hb dX5_searches_2 (by decide) ?_
  refine lv_istore (lv' := [(4, .int 0), (3, .int 0), (0, .ref mh), (1, .int p1), (2, .int p2)]) hx hb dX5_searches_3 hl (by decide) rfl (fun ls hl => ?_)
  exact L5 _ _ _ _ _ _ _ _ _ _ h (Nat.lt_succ_self _) (hP.sub [0, 1, 2, 3, 4, 5, 6, 7] rfl) (hD.sub [0, 1, 2, 3, 4, 5, 6, 7] (by decide) rfl) hS (lv_sub hl [2, 3, 4, 1, 0] rfl)
theorem c_X5_searches (l : Launch) (D : va_G) (cI : ClassId) (mh mb ml mv mo mg mt mk : Nat) (sz : Nat) (rw : Int32) (co : Int32) (cl : Int32) (fi : Int32) (st : Int64) (th : Int32) (bd : Nat → Int32) (lf : Nat → Int32) (hf : Nat → Int32) (of : Nat → Int32) (gf : Nat → Int32) (tf : Nat → Int32) (kf : Nat → Int32) (p1 : Int32) (p2 : Int32) (hpre : mspre rw co bd gf p1) : Met l yX5_searches wsX5_searches ({ frames := 6, cells := 0, slots := 0, locals := 134 } : Room) (ff_Pc D [(cI, .int)] [.ref mh, .int p1, .int p2] ([(mh, .inr (5, [.int rw, .int co, .ref mb, .int cl, .int fi, .ref ml, .ref mv, .ref mo, .ref mg, .ref mt, .ref mk, .long st, .int th])), (mb, .inl (cI, 12, .inl bd)), (ml, .inl (cI, 12, .inl lf)), (mv, .inl (cI, 10, .inl hf)), (mo, .inl (cI, 12, .inl of)), (mg, .inl (cI, 12, .inl gf)), (mt, .inl (cI, 12, .inl tf)), (mk, .inl (cI, 12, .inl kf))] : va_W) sz) (va_Qi (fun (r : Int32) (u : (Nat → Int32) × (Nat → Int32) × (Nat → Int32) × (Nat → Int32)) => r = msR p1 (mall0 rw co bd gf) ∧ u.1 = msB p1 p2 (mall0 rw co bd gf) bd) (fun (u : (Nat → Int32) × (Nat → Int32) × (Nat → Int32) × (Nat → Int32)) t => ff_B D [(cI, .int)] (va_A ([(mh, .inr (5, [.int rw, .int co, .ref mb, .int cl, .int fi, .ref ml, .ref mv, .ref mo, .ref mg, .ref mt, .ref mk, .long st, .int th])), (mb, .inl (cI, 12, .inl bd)), (ml, .inl (cI, 12, .inl lf)), (mv, .inl (cI, 10, .inl hf)), (mo, .inl (cI, 12, .inl of)), (mg, .inl (cI, 12, .inl gf)), (mt, .inl (cI, 12, .inl tf)), (mk, .inl (cI, 12, .inl kf))] : va_W) sz) [(mh, .inr (5, [.int rw, .int co, .ref mb, .int cl, .int fi, .ref ml, .ref mv, .ref mo, .ref mg, .ref mt, .ref mk, .long st, .int th])), (mb, .inl (cI, 12, .inl (u.1))), (ml, .inl (cI, 12, .inl lf)), (mv, .inl (cI, 10, .inl (u.2.1))), (mo, .inl (cI, 12, .inl (u.2.2.1))), (mg, .inl (cI, 12, .inl gf)), (mt, .inl (cI, 12, .inl (u.2.2.2))), (mk, .inl (cI, 12, .inl kf))] t) (va_A ([(mh, .inr (5, [.int rw, .int co, .ref mb, .int cl, .int fi, .ref ml, .ref mv, .ref mo, .ref mg, .ref mt, .ref mk, .long st, .int th])), (mb, .inl (cI, 12, .inl bd)), (ml, .inl (cI, 12, .inl lf)), (mv, .inl (cI, 10, .inl hf)), (mo, .inl (cI, 12, .inl of)), (mg, .inl (cI, 12, .inl gf)), (mt, .inl (cI, 12, .inl tf)), (mk, .inl (cI, 12, .inl kf))] : va_W) sz)) 0 0 (va_A ([(mh, .inr (5, [.int rw, .int co, .ref mb, .int cl, .int fi, .ref ml, .ref mv, .ref mo, .ref mg, .ref mt, .ref mk, .long st, .int th])), (mb, .inl (cI, 12, .inl bd)), (ml, .inl (cI, 12, .inl lf)), (mv, .inl (cI, 10, .inl hf)), (mo, .inl (cI, 12, .inl of)), (mg, .inl (cI, 12, .inl gf)), (mt, .inl (cI, 12, .inl tf)), (mk, .inl (cI, 12, .inl kf))] : va_W) sz) :=
  a_X5_searches l D cI mh mb ml mv mo mg mt mk sz rw co cl fi st th bd lf hf of gf tf kf p1 p2 _ (I_X5_searches_5 rw co cl fi st th bd lf hf of gf tf kf p1 p2) (mu_X5_searches_5 rw co cl fi st th bd lf hf of gf tf kf p1 p2) (I_X5_searches_54 rw co cl fi st th bd lf hf of gf tf kf p1 p2) (mu_X5_searches_54 rw co cl fi st th bd lf hf of gf tf kf p1 p2) (pl_X5_searches_5 rw co cl fi st th bd lf hf of gf tf kf p1 p2 hpre) (pl_X5_searches_54 rw co cl fi st th bd lf hf of gf tf kf p1 p2 hpre) (pe_X5_searches rw co cl fi st th bd lf hf of gf tf kf p1 p2 hpre)
set_option maxHeartbeats 4000000 in
set_option maxRecDepth 100000 in
theorem a_X5_solutions (l : Launch) (D : va_G) (cI : ClassId) (mh mb ml mv mo mg mt mk : Nat) (sz : Nat) (rw : Int32) (co : Int32) (cl : Int32) (fi : Int32) (st : Int64) (th : Int32) (bd : Nat → Int32) (lf : Nat → Int32) (hf : Nat → Int32) (of : Nat → Int32) (gf : Nat → Int32) (tf : Nat → Int32) (kf : Nat → Int32) (p1 : Int32) (P : Int32 → (Int32 × (Nat → Int32) × (Nat → Int32) × (Nat → Int32) × (Nat → Int32)) → Prop)  (he : ve_X5_solutions rw co cl fi st th bd lf hf of gf tf kf p1 P ) : Met l yX5_solutions wsX5_solutions ({ frames := 7, cells := 0, slots := 0, locals := 160 } : Room) (ff_Pc D [(cI, .int)] [.ref mh, .int p1] ([(mh, .inr (5, [.int rw, .int co, .ref mb, .int cl, .int fi, .ref ml, .ref mv, .ref mo, .ref mg, .ref mt, .ref mk, .long st, .int th])), (mb, .inl (cI, 12, .inl bd)), (ml, .inl (cI, 12, .inl lf)), (mv, .inl (cI, 10, .inl hf)), (mo, .inl (cI, 12, .inl of)), (mg, .inl (cI, 12, .inl gf)), (mt, .inl (cI, 12, .inl tf)), (mk, .inl (cI, 12, .inl kf))] : va_W) sz) (va_Qi P (fun (u : Int32 × (Nat → Int32) × (Nat → Int32) × (Nat → Int32) × (Nat → Int32)) t => ff_B D [(cI, .int)] (va_A ([(mh, .inr (5, [.int rw, .int co, .ref mb, .int cl, .int fi, .ref ml, .ref mv, .ref mo, .ref mg, .ref mt, .ref mk, .long st, .int th])), (mb, .inl (cI, 12, .inl bd)), (ml, .inl (cI, 12, .inl lf)), (mv, .inl (cI, 10, .inl hf)), (mo, .inl (cI, 12, .inl of)), (mg, .inl (cI, 12, .inl gf)), (mt, .inl (cI, 12, .inl tf)), (mk, .inl (cI, 12, .inl kf))] : va_W) sz) [(mh, .inr (5, [.int rw, .int co, .ref mb, .int cl, .int fi, .ref ml, .ref mv, .ref mo, .ref mg, .ref mt, .ref mk, .long st, .int (u.1)])), (mb, .inl (cI, 12, .inl (u.2.1))), (ml, .inl (cI, 12, .inl lf)), (mv, .inl (cI, 10, .inl (u.2.2.1))), (mo, .inl (cI, 12, .inl (u.2.2.2.1))), (mg, .inl (cI, 12, .inl gf)), (mt, .inl (cI, 12, .inl (u.2.2.2.2))), (mk, .inl (cI, 12, .inl kf))] t) (va_A ([(mh, .inr (5, [.int rw, .int co, .ref mb, .int cl, .int fi, .ref ml, .ref mv, .ref mo, .ref mg, .ref mt, .ref mk, .long st, .int th])), (mb, .inl (cI, 12, .inl bd)), (ml, .inl (cI, 12, .inl lf)), (mv, .inl (cI, 10, .inl hf)), (mo, .inl (cI, 12, .inl of)), (mg, .inl (cI, 12, .inl gf)), (mt, .inl (cI, 12, .inl tf)), (mk, .inl (cI, 12, .inl kf))] : va_W) sz)) 0 0 (va_A ([(mh, .inr (5, [.int rw, .int co, .ref mb, .int cl, .int fi, .ref ml, .ref mv, .ref mo, .ref mg, .ref mt, .ref mk, .long st, .int th])), (mb, .inl (cI, 12, .inl bd)), (ml, .inl (cI, 12, .inl lf)), (mv, .inl (cI, 10, .inl hf)), (mo, .inl (cI, 12, .inl of)), (mg, .inl (cI, 12, .inl gf)), (mt, .inl (cI, 12, .inl tf)), (mk, .inl (cI, 12, .inl kf))] : va_W) sz) := by
  refine ff_metI (Wf := (fun (u : Int32 × (Nat → Int32) × (Nat → Int32) × (Nat → Int32) × (Nat → Int32)) => ([(mh, .inr (5, [.int rw, .int co, .ref mb, .int cl, .int fi, .ref ml, .ref mv, .ref mo, .ref mg, .ref mt, .ref mk, .long st, .int (u.1)])), (mb, .inl (cI, 12, .inl (u.2.1))), (ml, .inl (cI, 12, .inl lf)), (mv, .inl (cI, 10, .inl (u.2.2.1))), (mo, .inl (cI, 12, .inl (u.2.2.2.1))), (mg, .inl (cI, 12, .inl gf)), (mt, .inl (cI, 12, .inl (u.2.2.2.2))), (mk, .inl (cI, 12, .inl kf))] : va_W))) (by decide +kernel) rfl (Nat.le_of_ble_eq_true rfl) ?_
  intro p e s m args below meth c A Q ls H hx hb hml hown hts hN hA hK hP hD hS hret hl
  have h := he
  unfold ve_X5_solutions at h
  have hl : lv_has ls 2 [(0, .ref mh), (1, .int p1)] := hl
  refine lv_aload_n hx hb dX5_solutions_0 rfl (lv_at hl 0 rfl) ?_
  refine lv_iload_n hx hb dX5_solutions_1 rfl (lv_at hl 1 rfl) ?_
  refine lv_iconst (v := 1) hx hb dX5_solutions_2 (by decide) ?_
  refine lv_iconst (v := 5) hx hb dX5_solutions_3 (by decide) ?_
  have hPc := hP.sub (ws' := []) [] rfl
  have hDc := hD.sub (ws' := []) [] (by decide) rfl
  refine ff_callI (va_runS (As := [.int p1, .int 1, .int 5]) (rest := [.ref mh]) ⟨hx, hb, hml, hown, hts⟩ (c_X5_isIn l D cI H.size p1 1 5) (va_cwS 3 hts gX5_solutions_X5_isIn rfl rfl rfl (by decide +kernel) ⟨Nat.le_of_ble_eq_true rfl, Nat.le_of_ble_eq_true rfl⟩) (ff_preS hPc hK hDc hN) rfl rfl hl.1 rfl (lv_room (Nat.le_of_ble_eq_true rfl)) dX5_solutions_4 ⟨Nat.le_of_ble_eq_true rfl, Nat.le_of_ble_eq_true rfl⟩) hP hD hS hA [] [0, 1, 2, 3, 4, 5, 6, 7] (wr := [(mh, .inr (5, [.int rw, .int co, .ref mb, .int cl, .int fi, .ref ml, .ref mv, .ref mo, .ref mg, .ref mt, .ref mk, .long st, .int th])), (mb, .inl (cI, 12, .inl bd)), (ml, .inl (cI, 12, .inl lf)), (mv, .inl (cI, 10, .inl hf)), (mo, .inl (cI, 12, .inl of)), (mg, .inl (cI, 12, .inl gf)), (mt, .inl (cI, 12, .inl tf)), (mk, .inl (cI, 12, .inl kf))]) rfl rfl (by decide) (by decide) (fun r u H locs hw hP hD hS => ?_)
  replace hw := hw.symm
  subst hw
  have hP : va_P D vwCl [(mh, .inr (5, [.int rw, .int co, .ref mb, .int cl, .int fi, .ref ml, .ref mv, .ref mo, .ref mg, .ref mt, .ref mk, .long st, .int th])), (mb, .inl (cI, 12, .inl bd)), (ml, .inl (cI, 12, .inl lf)), (mv, .inl (cI, 10, .inl hf)), (mo, .inl (cI, 12, .inl of)), (mg, .inl (cI, 12, .inl gf)), (mt, .inl (cI, 12, .inl tf)), (mk, .inl (cI, 12, .inl kf))] H := hP
  have hD : va_D A [(mh, .inr (5, [.int rw, .int co, .ref mb, .int cl, .int fi, .ref ml, .ref mv, .ref mo, .ref mg, .ref mt, .ref mk, .long st, .int th])), (mb, .inl (cI, 12, .inl bd)), (ml, .inl (cI, 12, .inl lf)), (mv, .inl (cI, 10, .inl hf)), (mo, .inl (cI, 12, .inl of)), (mg, .inl (cI, 12, .inl gf)), (mt, .inl (cI, 12, .inl tf)), (mk, .inl (cI, 12, .inl kf))] := hD
  refine lv_if_eq (tgt := 14) hx hb dX5_solutions_7 (by decide) (fun c_1 => ?_) (fun c_1 => ?_)
  · have h := h.1 c_1
    refine lv_iconst (v := 1) hx hb dX5_solutions_14 (by decide) ?_
    have hPc := hP.sub (ws' := [(mh, .inr (5, [.int rw, .int co, .ref mb, .int cl, .int fi, .ref ml, .ref mv, .ref mo, .ref mg, .ref mt, .ref mk, .long st, .int th])), (mb, .inl (cI, 12, .inl bd)), (ml, .inl (cI, 12, .inl lf)), (mv, .inl (cI, 10, .inl hf)), (mo, .inl (cI, 12, .inl of)), (mg, .inl (cI, 12, .inl gf)), (mt, .inl (cI, 12, .inl tf)), (mk, .inl (cI, 12, .inl kf))]) [0, 1, 2, 3, 4, 5, 6, 7] rfl
    have hDc := hD.sub (ws' := [(mh, .inr (5, [.int rw, .int co, .ref mb, .int cl, .int fi, .ref ml, .ref mv, .ref mo, .ref mg, .ref mt, .ref mk, .long st, .int th])), (mb, .inl (cI, 12, .inl bd)), (ml, .inl (cI, 12, .inl lf)), (mv, .inl (cI, 10, .inl hf)), (mo, .inl (cI, 12, .inl of)), (mg, .inl (cI, 12, .inl gf)), (mt, .inl (cI, 12, .inl tf)), (mk, .inl (cI, 12, .inl kf))]) [0, 1, 2, 3, 4, 5, 6, 7] (by decide) rfl
    refine ff_callI (va_runV (As := [.int 1]) (rest := []) ⟨hx, hb, hml, hown, hts⟩ (c_X5_can l D cI mh mb ml mv mo mg mt mk H.size rw co cl fi st th bd lf hf of gf tf kf 1) (cwV 1 hts gX5_solutions_X5_can rfl rfl rfl (by decide +kernel) ⟨Nat.le_of_ble_eq_true rfl, Nat.le_of_ble_eq_true rfl⟩) (ff_preV (q := (RX5, TX5, 13)) (ci := 5) (q0 := 0) hPc hK hDc hN rfl rfl) rfl rfl hl.1 rfl (lv_room (Nat.le_of_ble_eq_true rfl)) dX5_solutions_15 ⟨Nat.le_of_ble_eq_true rfl, Nat.le_of_ble_eq_true rfl⟩) hP hD hS hA [0, 1, 2, 3, 4, 5, 6, 7] [] (wr := []) rfl rfl (by decide) (by decide) (fun r u H locs hw hP hD hS => ?_)
    obtain ⟨e0_w, e1_w⟩ := hw
    replace e0_w := e0_w.symm
    subst e0_w
    replace e1_w := e1_w.symm
    subst e1_w
    have hP : va_P D vwCl [(mh, .inr (5, [.int rw, .int co, .ref mb, .int cl, .int fi, .ref ml, .ref mv, .ref mo, .ref mg, .ref mt, .ref mk, .long st, .int 1])), (mb, .inl (cI, 12, .inl bd)), (ml, .inl (cI, 12, .inl lf)), (mv, .inl (cI, 10, .inl hf)), (mo, .inl (cI, 12, .inl of)), (mg, .inl (cI, 12, .inl gf)), (mt, .inl (cI, 12, .inl tf)), (mk, .inl (cI, 12, .inl kf))] H := hP
    have hD : va_D A [(mh, .inr (5, [.int rw, .int co, .ref mb, .int cl, .int fi, .ref ml, .ref mv, .ref mo, .ref mg, .ref mt, .ref mk, .long st, .int 1])), (mb, .inl (cI, 12, .inl bd)), (ml, .inl (cI, 12, .inl lf)), (mv, .inl (cI, 10, .inl hf)), (mo, .inl (cI, 12, .inl of)), (mg, .inl (cI, 12, .inl gf)), (mt, .inl (cI, 12, .inl tf)), (mk, .inl (cI, 12, .inl kf))] := hD
    refine lv_if_eq (tgt := 30) hx hb dX5_solutions_18 (by decide) (fun _ => ?_) (fun c_2 => absurd c_2 (by decide))
    refine lv_iconst (v := 0) hx hb dX5_solutions_30 (by decide) ?_
    exact hret 0 (1, bd, hf, of, tf) _ _ _ _ _ _ h (hP.sub [0, 1, 2, 3, 4, 5, 6, 7] rfl) (hD.sub [0, 1, 2, 3, 4, 5, 6, 7] (by decide) rfl) hS (Nat.le_of_ble_eq_true rfl) (Nat.le_of_ble_eq_true rfl) dX5_solutions_31
  · have h := h.2 c_1
    refine lv_iconst (v := 0) hx hb dX5_solutions_10 (by decide) ?_
    refine lv_goto (tgt := 15) hx hb dX5_solutions_11 (by decide) ?_
    have hPc := hP.sub (ws' := [(mh, .inr (5, [.int rw, .int co, .ref mb, .int cl, .int fi, .ref ml, .ref mv, .ref mo, .ref mg, .ref mt, .ref mk, .long st, .int th])), (mb, .inl (cI, 12, .inl bd)), (ml, .inl (cI, 12, .inl lf)), (mv, .inl (cI, 10, .inl hf)), (mo, .inl (cI, 12, .inl of)), (mg, .inl (cI, 12, .inl gf)), (mt, .inl (cI, 12, .inl tf)), (mk, .inl (cI, 12, .inl kf))]) [0, 1, 2, 3, 4, 5, 6, 7] rfl
    have hDc := hD.sub (ws' := [(mh, .inr (5, [.int rw, .int co, .ref mb, .int cl, .int fi, .ref ml, .ref mv, .ref mo, .ref mg, .ref mt, .ref mk, .long st, .int th])), (mb, .inl (cI, 12, .inl bd)), (ml, .inl (cI, 12, .inl lf)), (mv, .inl (cI, 10, .inl hf)), (mo, .inl (cI, 12, .inl of)), (mg, .inl (cI, 12, .inl gf)), (mt, .inl (cI, 12, .inl tf)), (mk, .inl (cI, 12, .inl kf))]) [0, 1, 2, 3, 4, 5, 6, 7] (by decide) rfl
    refine ff_callI (va_runV (As := [.int 0]) (rest := []) ⟨hx, hb, hml, hown, hts⟩ (c_X5_can l D cI mh mb ml mv mo mg mt mk H.size rw co cl fi st th bd lf hf of gf tf kf 0) (cwV 1 hts gX5_solutions_X5_can rfl rfl rfl (by decide +kernel) ⟨Nat.le_of_ble_eq_true rfl, Nat.le_of_ble_eq_true rfl⟩) (ff_preV (q := (RX5, TX5, 13)) (ci := 5) (q0 := 0) hPc hK hDc hN rfl rfl) rfl rfl hl.1 rfl (lv_room (Nat.le_of_ble_eq_true rfl)) dX5_solutions_15 ⟨Nat.le_of_ble_eq_true rfl, Nat.le_of_ble_eq_true rfl⟩) hP hD hS hA [0, 1, 2, 3, 4, 5, 6, 7] [] (wr := []) rfl rfl (by decide) (by decide) (fun r u H locs hw hP hD hS => ?_)
    obtain ⟨e0_w, e1_w⟩ := hw
    replace e0_w := e0_w.symm
    subst e0_w
    replace e1_w := e1_w.symm
    subst e1_w
    have hP : va_P D vwCl [(mh, .inr (5, [.int rw, .int co, .ref mb, .int cl, .int fi, .ref ml, .ref mv, .ref mo, .ref mg, .ref mt, .ref mk, .long st, .int 0])), (mb, .inl (cI, 12, .inl bd)), (ml, .inl (cI, 12, .inl lf)), (mv, .inl (cI, 10, .inl hf)), (mo, .inl (cI, 12, .inl of)), (mg, .inl (cI, 12, .inl gf)), (mt, .inl (cI, 12, .inl tf)), (mk, .inl (cI, 12, .inl kf))] H := hP
    have hD : va_D A [(mh, .inr (5, [.int rw, .int co, .ref mb, .int cl, .int fi, .ref ml, .ref mv, .ref mo, .ref mg, .ref mt, .ref mk, .long st, .int 0])), (mb, .inl (cI, 12, .inl bd)), (ml, .inl (cI, 12, .inl lf)), (mv, .inl (cI, 10, .inl hf)), (mo, .inl (cI, 12, .inl of)), (mg, .inl (cI, 12, .inl gf)), (mt, .inl (cI, 12, .inl tf)), (mk, .inl (cI, 12, .inl kf))] := hD
    refine lv_if_eq (tgt := 30) hx hb dX5_solutions_18 (by decide) (fun c_3 => absurd c_3 (by decide)) (fun _ => ?_)
    refine lv_aload_n hx hb dX5_solutions_21 rfl (lv_at hl 0 rfl) ?_
    refine lv_iload_n hx hb dX5_solutions_22 rfl (lv_at hl 1 rfl) ?_
    refine lv_iconst (v := 0) hx hb dX5_solutions_23 (by decide) ?_
    obtain ⟨p_4, h⟩ := h
    have hPc := hP.sub (ws' := [(mh, .inr (5, [.int rw, .int co, .ref mb, .int cl, .int fi, .ref ml, .ref mv, .ref mo, .ref mg, .ref mt, .ref mk, .long st, .int 0])), (mb, .inl (cI, 12, .inl bd)), (ml, .inl (cI, 12, .inl lf)), (mv, .inl (cI, 10, .inl hf)), (mo, .inl (cI, 12, .inl of)), (mg, .inl (cI, 12, .inl gf)), (mt, .inl (cI, 12, .inl tf)), (mk, .inl (cI, 12, .inl kf))]) [0, 1, 2, 3, 4, 5, 6, 7] rfl
    have hDc := hD.sub (ws' := [(mh, .inr (5, [.int rw, .int co, .ref mb, .int cl, .int fi, .ref ml, .ref mv, .ref mo, .ref mg, .ref mt, .ref mk, .long st, .int 0])), (mb, .inl (cI, 12, .inl bd)), (ml, .inl (cI, 12, .inl lf)), (mv, .inl (cI, 10, .inl hf)), (mo, .inl (cI, 12, .inl of)), (mg, .inl (cI, 12, .inl gf)), (mt, .inl (cI, 12, .inl tf)), (mk, .inl (cI, 12, .inl kf))]) [0, 1, 2, 3, 4, 5, 6, 7] (by decide) rfl
    refine ff_callI (va_runV (As := [.int p1, .int 0]) (rest := []) ⟨hx, hb, hml, hown, hts⟩ (c_X5_searches l D cI mh mb ml mv mo mg mt mk H.size rw co cl fi st 0 bd lf hf of gf tf kf p1 0 p_4) (cwV 2 hts gX5_solutions_X5_searches rfl rfl rfl (by decide +kernel) ⟨Nat.le_of_ble_eq_true rfl, Nat.le_of_ble_eq_true rfl⟩) (ff_preV (q := (RX5, TX5, 13)) (ci := 5) (q0 := 0) hPc hK hDc hN rfl rfl) rfl rfl hl.1 rfl (lv_room (Nat.le_of_ble_eq_true rfl)) dX5_solutions_24 ⟨Nat.le_of_ble_eq_true rfl, Nat.le_of_ble_eq_true rfl⟩) hP hD hS hA [0, 1, 2, 3, 4, 5, 6, 7] [] (wr := []) rfl rfl (by decide) (by decide) (fun r u H locs hw hP hD hS => ?_)
    obtain ⟨ubd_5, hf_5, of_5, tf_5⟩ := u
    have hw : r = msR p1 (mall0 rw co bd gf) ∧ ubd_5 = msB p1 0 (mall0 rw co bd gf) bd := hw
    obtain ⟨e0_w, e1_w⟩ := hw
    replace e0_w := e0_w.symm
    subst e0_w
    replace e1_w := e1_w.symm
    subst e1_w
    have h := h hf_5 of_5 tf_5
    have hP : va_P D vwCl [(mh, .inr (5, [.int rw, .int co, .ref mb, .int cl, .int fi, .ref ml, .ref mv, .ref mo, .ref mg, .ref mt, .ref mk, .long st, .int 0])), (mb, .inl (cI, 12, .inl (msB p1 0 (mall0 rw co bd gf) bd))), (ml, .inl (cI, 12, .inl lf)), (mv, .inl (cI, 10, .inl hf_5)), (mo, .inl (cI, 12, .inl of_5)), (mg, .inl (cI, 12, .inl gf)), (mt, .inl (cI, 12, .inl tf_5)), (mk, .inl (cI, 12, .inl kf))] H := hP
    have hD : va_D A [(mh, .inr (5, [.int rw, .int co, .ref mb, .int cl, .int fi, .ref ml, .ref mv, .ref mo, .ref mg, .ref mt, .ref mk, .long st, .int 0])), (mb, .inl (cI, 12, .inl (msB p1 0 (mall0 rw co bd gf) bd))), (ml, .inl (cI, 12, .inl lf)), (mv, .inl (cI, 10, .inl hf_5)), (mo, .inl (cI, 12, .inl of_5)), (mg, .inl (cI, 12, .inl gf)), (mt, .inl (cI, 12, .inl tf_5)), (mk, .inl (cI, 12, .inl kf))] := hD
    refine lv_goto (tgt := 31) hx hb dX5_solutions_27 (by decide) ?_
    exact hret (msR p1 (mall0 rw co bd gf)) (0, msB p1 0 (mall0 rw co bd gf) bd, hf_5, of_5, tf_5) _ _ _ _ _ _ h (hP.sub [0, 1, 2, 3, 4, 5, 6, 7] rfl) (hD.sub [0, 1, 2, 3, 4, 5, 6, 7] (by decide) rfl) hS (Nat.le_of_ble_eq_true rfl) (Nat.le_of_ble_eq_true rfl) dX5_solutions_31
theorem c_X5_solutions (l : Launch) (D : va_G) (cI : ClassId) (mh mb ml mv mo mg mt mk : Nat) (sz : Nat) (rw : Int32) (co : Int32) (cl : Int32) (fi : Int32) (st : Int64) (th : Int32) (bd : Nat → Int32) (lf : Nat → Int32) (hf : Nat → Int32) (of : Nat → Int32) (gf : Nat → Int32) (tf : Nat → Int32) (kf : Nat → Int32) (p1 : Int32) (hpre : mok rw co bd ∧ ∀ k, k < 12 → vp_in (gf k) 9) : Met l yX5_solutions wsX5_solutions ({ frames := 7, cells := 0, slots := 0, locals := 160 } : Room) (ff_Pc D [(cI, .int)] [.ref mh, .int p1] ([(mh, .inr (5, [.int rw, .int co, .ref mb, .int cl, .int fi, .ref ml, .ref mv, .ref mo, .ref mg, .ref mt, .ref mk, .long st, .int th])), (mb, .inl (cI, 12, .inl bd)), (ml, .inl (cI, 12, .inl lf)), (mv, .inl (cI, 10, .inl hf)), (mo, .inl (cI, 12, .inl of)), (mg, .inl (cI, 12, .inl gf)), (mt, .inl (cI, 12, .inl tf)), (mk, .inl (cI, 12, .inl kf))] : va_W) sz) (va_Qi (fun (r : Int32) (u : Int32 × (Nat → Int32) × (Nat → Int32) × (Nat → Int32) × (Nat → Int32)) => r = (if min3 p1 1 5 then msR p1 (mall0 rw co bd gf) else 0) ∧ u.1 = (if min3 p1 1 5 then 0 else 1) ∧ u.2.1 = bd) (fun (u : Int32 × (Nat → Int32) × (Nat → Int32) × (Nat → Int32) × (Nat → Int32)) t => ff_B D [(cI, .int)] (va_A ([(mh, .inr (5, [.int rw, .int co, .ref mb, .int cl, .int fi, .ref ml, .ref mv, .ref mo, .ref mg, .ref mt, .ref mk, .long st, .int th])), (mb, .inl (cI, 12, .inl bd)), (ml, .inl (cI, 12, .inl lf)), (mv, .inl (cI, 10, .inl hf)), (mo, .inl (cI, 12, .inl of)), (mg, .inl (cI, 12, .inl gf)), (mt, .inl (cI, 12, .inl tf)), (mk, .inl (cI, 12, .inl kf))] : va_W) sz) [(mh, .inr (5, [.int rw, .int co, .ref mb, .int cl, .int fi, .ref ml, .ref mv, .ref mo, .ref mg, .ref mt, .ref mk, .long st, .int (u.1)])), (mb, .inl (cI, 12, .inl (u.2.1))), (ml, .inl (cI, 12, .inl lf)), (mv, .inl (cI, 10, .inl (u.2.2.1))), (mo, .inl (cI, 12, .inl (u.2.2.2.1))), (mg, .inl (cI, 12, .inl gf)), (mt, .inl (cI, 12, .inl (u.2.2.2.2))), (mk, .inl (cI, 12, .inl kf))] t) (va_A ([(mh, .inr (5, [.int rw, .int co, .ref mb, .int cl, .int fi, .ref ml, .ref mv, .ref mo, .ref mg, .ref mt, .ref mk, .long st, .int th])), (mb, .inl (cI, 12, .inl bd)), (ml, .inl (cI, 12, .inl lf)), (mv, .inl (cI, 10, .inl hf)), (mo, .inl (cI, 12, .inl of)), (mg, .inl (cI, 12, .inl gf)), (mt, .inl (cI, 12, .inl tf)), (mk, .inl (cI, 12, .inl kf))] : va_W) sz)) 0 0 (va_A ([(mh, .inr (5, [.int rw, .int co, .ref mb, .int cl, .int fi, .ref ml, .ref mv, .ref mo, .ref mg, .ref mt, .ref mk, .long st, .int th])), (mb, .inl (cI, 12, .inl bd)), (ml, .inl (cI, 12, .inl lf)), (mv, .inl (cI, 10, .inl hf)), (mo, .inl (cI, 12, .inl of)), (mg, .inl (cI, 12, .inl gf)), (mt, .inl (cI, 12, .inl tf)), (mk, .inl (cI, 12, .inl kf))] : va_W) sz) :=
  a_X5_solutions l D cI mh mb ml mv mo mg mt mk sz rw co cl fi st th bd lf hf of gf tf kf p1 _  (pe_X5_solutions rw co cl fi st th bd lf hf of gf tf kf p1 hpre)
theorem kX5_make_5 : (.fieldLink RX5 80 "FieldFillerModel" "clues" "I" : Cond) ∈ wsX5_make := List.mem_of_getElem? (i := 5) rfl
theorem nX5_make_wsX50 : ∀ w ∈ wsX50, w ∈ wsX5_make := (fun w h => List.mem_cons_of_mem _ (List.mem_append_right _ h))
theorem kX5_make_2 : (.fieldLink RX5 16 "FieldFillerModel" "board" "[I" : Cond) ∈ wsX5_make := List.mem_of_getElem? (i := 2) rfl
theorem kX5_make_3 : (.fieldLink RX5 29 "FieldFillerModel" "begins" "[I" : Cond) ∈ wsX5_make := List.mem_of_getElem? (i := 3) rfl
theorem kX5_make_4 : (.fieldLink RX5 73 "FieldFillerModel" "filled" "I" : Cond) ∈ wsX5_make := List.mem_of_getElem? (i := 4) rfl
theorem kX5_make_1 : (.fieldLink RX5 105 "FieldFillerModel" "state" "J" : Cond) ∈ wsX5_make := List.mem_of_getElem? (i := 1) rfl
set_option maxHeartbeats 4000000 in
set_option maxRecDepth 100000 in
theorem a_X5_make (l : Launch) (D : va_G) (cI : ClassId) (mh mb ml mv mo mg mt mk : Nat) (sz : Nat) (rw : Int32) (co : Int32) (cl : Int32) (fi : Int32) (st : Int64) (th : Int32) (bd : Nat → Int32) (lf : Nat → Int32) (hf : Nat → Int32) (of : Nat → Int32) (gf : Nat → Int32) (tf : Nat → Int32) (kf : Nat → Int32) (p1 : Int32) (P : Int32 → (Int32 × (Nat → Int32) × Int32 × Int32 × Int64 × (Nat → Int32) × (Nat → Int32) × (Nat → Int32) × (Nat → Int32)) → Prop) (I26 : Int32 → Int32 → (Nat → Int32) → Int32 → Int32 → Int64 → (Nat → Int32) → (Nat → Int32) → (Nat → Int32) → (Nat → Int32) → Prop) (mu26 : Int32 → Int32 → (Nat → Int32) → Int32 → Int32 → Int64 → (Nat → Int32) → (Nat → Int32) → (Nat → Int32) → (Nat → Int32) → Nat) (I86 : Int32 → Int32 → (Nat → Int32) → Int32 → Int32 → Int64 → (Nat → Int32) → (Nat → Int32) → (Nat → Int32) → (Nat → Int32) → Prop) (mu86 : Int32 → Int32 → (Nat → Int32) → Int32 → Int32 → Int64 → (Nat → Int32) → (Nat → Int32) → (Nat → Int32) → (Nat → Int32) → Nat) (I107 : Int32 → Int32 → (Nat → Int32) → Int32 → Int32 → Int64 → (Nat → Int32) → (Nat → Int32) → (Nat → Int32) → (Nat → Int32) → Prop) (mu107 : Int32 → Int32 → (Nat → Int32) → Int32 → Int32 → Int64 → (Nat → Int32) → (Nat → Int32) → (Nat → Int32) → (Nat → Int32) → Nat) (hv26 : ∀ (x2 : Int32) (th' : Int32) (bd' : Nat → Int32) (cl' : Int32) (fi' : Int32) (st' : Int64) (gf' : Nat → Int32) (hf' : Nat → Int32) (of' : Nat → Int32) (tf' : Nat → Int32), I26 x2 th' bd' cl' fi' st' gf' hf' of' tf' → vs_X5_make_26 rw co cl fi st th bd lf hf of gf tf kf p1 P (fun (x29 : Int32) (th9 : Int32) (bd9 : Nat → Int32) (cl9 : Int32) (fi9 : Int32) (st9 : Int64) (gf9 : Nat → Int32) (hf9 : Nat → Int32) (of9 : Nat → Int32) (tf9 : Nat → Int32) => I26 x29 th9 bd9 cl9 fi9 st9 gf9 hf9 of9 tf9 ∧ mu26 x29 th9 bd9 cl9 fi9 st9 gf9 hf9 of9 tf9 < mu26 x2 th' bd' cl' fi' st' gf' hf' of' tf') I86 I107 x2 th' bd' cl' fi' st' gf' hf' of' tf') (hv86 : ∀ (x2 : Int32) (th' : Int32) (bd' : Nat → Int32) (cl' : Int32) (fi' : Int32) (st' : Int64) (gf' : Nat → Int32) (hf' : Nat → Int32) (of' : Nat → Int32) (tf' : Nat → Int32), I86 x2 th' bd' cl' fi' st' gf' hf' of' tf' → vs_X5_make_86 rw co cl fi st th bd lf hf of gf tf kf p1 P I26 (fun (x29 : Int32) (th9 : Int32) (bd9 : Nat → Int32) (cl9 : Int32) (fi9 : Int32) (st9 : Int64) (gf9 : Nat → Int32) (hf9 : Nat → Int32) (of9 : Nat → Int32) (tf9 : Nat → Int32) => I86 x29 th9 bd9 cl9 fi9 st9 gf9 hf9 of9 tf9 ∧ mu86 x29 th9 bd9 cl9 fi9 st9 gf9 hf9 of9 tf9 < mu86 x2 th' bd' cl' fi' st' gf' hf' of' tf') I107 x2 th' bd' cl' fi' st' gf' hf' of' tf') (hv107 : ∀ (x2 : Int32) (th' : Int32) (bd' : Nat → Int32) (cl' : Int32) (fi' : Int32) (st' : Int64) (gf' : Nat → Int32) (hf' : Nat → Int32) (of' : Nat → Int32) (tf' : Nat → Int32), I107 x2 th' bd' cl' fi' st' gf' hf' of' tf' → vs_X5_make_107 rw co cl fi st th bd lf hf of gf tf kf p1 P I26 I86 (fun (x29 : Int32) (th9 : Int32) (bd9 : Nat → Int32) (cl9 : Int32) (fi9 : Int32) (st9 : Int64) (gf9 : Nat → Int32) (hf9 : Nat → Int32) (of9 : Nat → Int32) (tf9 : Nat → Int32) => I107 x29 th9 bd9 cl9 fi9 st9 gf9 hf9 of9 tf9 ∧ mu107 x29 th9 bd9 cl9 fi9 st9 gf9 hf9 of9 tf9 < mu107 x2 th' bd' cl' fi' st' gf' hf' of' tf') x2 th' bd' cl' fi' st' gf' hf' of' tf') (he : ve_X5_make rw co cl fi st th bd lf hf of gf tf kf p1 P I26 I86 I107) : Met l yX5_make wsX5_make ({ frames := 7, cells := 0, slots := 0, locals := 160 } : Room) (ff_Pc D [(cI, .int)] [.ref mh, .int p1] ([(mh, .inr (5, [.int rw, .int co, .ref mb, .int cl, .int fi, .ref ml, .ref mv, .ref mo, .ref mg, .ref mt, .ref mk, .long st, .int th])), (mb, .inl (cI, 12, .inl bd)), (ml, .inl (cI, 12, .inl lf)), (mv, .inl (cI, 10, .inl hf)), (mo, .inl (cI, 12, .inl of)), (mg, .inl (cI, 12, .inl gf)), (mt, .inl (cI, 12, .inl tf)), (mk, .inl (cI, 12, .inl kf))] : va_W) sz) (va_Qi P (fun (u : Int32 × (Nat → Int32) × Int32 × Int32 × Int64 × (Nat → Int32) × (Nat → Int32) × (Nat → Int32) × (Nat → Int32)) t => ff_B D [(cI, .int)] (va_A ([(mh, .inr (5, [.int rw, .int co, .ref mb, .int cl, .int fi, .ref ml, .ref mv, .ref mo, .ref mg, .ref mt, .ref mk, .long st, .int th])), (mb, .inl (cI, 12, .inl bd)), (ml, .inl (cI, 12, .inl lf)), (mv, .inl (cI, 10, .inl hf)), (mo, .inl (cI, 12, .inl of)), (mg, .inl (cI, 12, .inl gf)), (mt, .inl (cI, 12, .inl tf)), (mk, .inl (cI, 12, .inl kf))] : va_W) sz) [(mh, .inr (5, [.int rw, .int co, .ref mb, .int (u.2.2.1), .int (u.2.2.2.1), .ref ml, .ref mv, .ref mo, .ref mg, .ref mt, .ref mk, .long (u.2.2.2.2.1), .int (u.1)])), (mb, .inl (cI, 12, .inl (u.2.1))), (ml, .inl (cI, 12, .inl lf)), (mv, .inl (cI, 10, .inl (u.2.2.2.2.2.2.1))), (mo, .inl (cI, 12, .inl (u.2.2.2.2.2.2.2.1))), (mg, .inl (cI, 12, .inl (u.2.2.2.2.2.1))), (mt, .inl (cI, 12, .inl (u.2.2.2.2.2.2.2.2))), (mk, .inl (cI, 12, .inl kf))] t) (va_A ([(mh, .inr (5, [.int rw, .int co, .ref mb, .int cl, .int fi, .ref ml, .ref mv, .ref mo, .ref mg, .ref mt, .ref mk, .long st, .int th])), (mb, .inl (cI, 12, .inl bd)), (ml, .inl (cI, 12, .inl lf)), (mv, .inl (cI, 10, .inl hf)), (mo, .inl (cI, 12, .inl of)), (mg, .inl (cI, 12, .inl gf)), (mt, .inl (cI, 12, .inl tf)), (mk, .inl (cI, 12, .inl kf))] : va_W) sz)) 0 0 (va_A ([(mh, .inr (5, [.int rw, .int co, .ref mb, .int cl, .int fi, .ref ml, .ref mv, .ref mo, .ref mg, .ref mt, .ref mk, .long st, .int th])), (mb, .inl (cI, 12, .inl bd)), (ml, .inl (cI, 12, .inl lf)), (mv, .inl (cI, 10, .inl hf)), (mo, .inl (cI, 12, .inl of)), (mg, .inl (cI, 12, .inl gf)), (mt, .inl (cI, 12, .inl tf)), (mk, .inl (cI, 12, .inl kf))] : va_W) sz) := by
  refine ff_metI (Wf := (fun (u : Int32 × (Nat → Int32) × Int32 × Int32 × Int64 × (Nat → Int32) × (Nat → Int32) × (Nat → Int32) × (Nat → Int32)) => ([(mh, .inr (5, [.int rw, .int co, .ref mb, .int (u.2.2.1), .int (u.2.2.2.1), .ref ml, .ref mv, .ref mo, .ref mg, .ref mt, .ref mk, .long (u.2.2.2.2.1), .int (u.1)])), (mb, .inl (cI, 12, .inl (u.2.1))), (ml, .inl (cI, 12, .inl lf)), (mv, .inl (cI, 10, .inl (u.2.2.2.2.2.2.1))), (mo, .inl (cI, 12, .inl (u.2.2.2.2.2.2.2.1))), (mg, .inl (cI, 12, .inl (u.2.2.2.2.2.1))), (mt, .inl (cI, 12, .inl (u.2.2.2.2.2.2.2.2))), (mk, .inl (cI, 12, .inl kf))] : va_W))) (by decide +kernel) rfl (Nat.le_of_ble_eq_true rfl) ?_
  intro p e s m args below meth c A Q ls H hx hb hml hown hts hN hA hK hP hD hS hret hl
  have L107 : ∀ (N : Nat) (x2 : Int32) (th' : Int32) (bd' : Nat → Int32) (cl' : Int32) (fi' : Int32) (st' : Int64) (gf' : Nat → Int32) (hf' : Nat → Int32) (of' : Nat → Int32) (tf' : Nat → Int32) (H : Heap) (locs : List Loc) (ls : Array Slot), I107 x2 th' bd' cl' fi' st' gf' hf' of' tf' → mu107 x2 th' bd' cl' fi' st' gf' hf' of' tf' < N → va_P D vwCl [(mh, .inr (5, [.int rw, .int co, .ref mb, .int cl', .int fi', .ref ml, .ref mv, .ref mo, .ref mg, .ref mt, .ref mk, .long st', .int th'])), (mb, .inl (cI, 12, .inl bd')), (ml, .inl (cI, 12, .inl lf)), (mv, .inl (cI, 10, .inl hf')), (mo, .inl (cI, 12, .inl of')), (mg, .inl (cI, 12, .inl gf')), (mt, .inl (cI, 12, .inl tf')), (mk, .inl (cI, 12, .inl kf))] H → va_D A [(mh, .inr (5, [.int rw, .int co, .ref mb, .int cl', .int fi', .ref ml, .ref mv, .ref mo, .ref mg, .ref mt, .ref mk, .long st', .int th'])), (mb, .inl (cI, 12, .inl bd')), (ml, .inl (cI, 12, .inl lf)), (mv, .inl (cI, 10, .inl hf')), (mo, .inl (cI, 12, .inl of')), (mg, .inl (cI, 12, .inl gf')), (mt, .inl (cI, 12, .inl tf')), (mk, .inl (cI, 12, .inl kf))] → va_S A s.heap H locs → lv_has ls 6 [(0, .ref mh), (1, .int p1), (2, .int x2)] → W p l e ({ frames := 7, cells := 0, slots := 0, locals := 160 } : Room) s m args below meth c H locs 0 0 Q (F0 m 107 ls []) := by
    intro N
    induction N with
    | zero => intros; rename_i hz _ _ _ _; exact absurd hz (Nat.not_lt_zero _)
    | succ N ih =>
      intro x2 th' bd' cl' fi' st' gf' hf' of' tf' H locs ls hI hmu hP hD hS hl
      have h := hv107 x2 th' bd' cl' fi' st' gf' hf' of' tf' hI
      unfold vs_X5_make_107 at h
      refine lv_iload_n hx hb dX5_make_107 rfl (lv_at hl 2 rfl) ?_
      refine lv_aload_n hx hb dX5_make_108 rfl (lv_at hl 0 rfl) ?_
      have hPc := hP.sub (ws' := [(mh, .inr (5, [.int rw, .int co, .ref mb, .int cl', .int fi', .ref ml, .ref mv, .ref mo, .ref mg, .ref mt, .ref mk, .long st', .int th'])), (mb, .inl (cI, 12, .inl bd')), (ml, .inl (cI, 12, .inl lf)), (mv, .inl (cI, 10, .inl hf')), (mo, .inl (cI, 12, .inl of')), (mg, .inl (cI, 12, .inl gf')), (mt, .inl (cI, 12, .inl tf')), (mk, .inl (cI, 12, .inl kf))]) [0, 1, 2, 3, 4, 5, 6, 7] rfl
      have hDc := hD.sub (ws' := [(mh, .inr (5, [.int rw, .int co, .ref mb, .int cl', .int fi', .ref ml, .ref mv, .ref mo, .ref mg, .ref mt, .ref mk, .long st', .int th'])), (mb, .inl (cI, 12, .inl bd')), (ml, .inl (cI, 12, .inl lf)), (mv, .inl (cI, 10, .inl hf')), (mo, .inl (cI, 12, .inl of')), (mg, .inl (cI, 12, .inl gf')), (mt, .inl (cI, 12, .inl tf')), (mk, .inl (cI, 12, .inl kf))]) [0, 1, 2, 3, 4, 5, 6, 7] (by decide) rfl
      refine ff_callI (va_runV (As := []) (rest := [.int x2]) ⟨hx, hb, hml, hown, hts⟩ (c_X5_cells l D cI mh mb ml mv mo mg mt mk H.size rw co cl' fi' st' th' bd' lf hf' of' gf' tf' kf) (cwV 0 hts gX5_make_X5_cells rfl rfl rfl (by decide +kernel) ⟨Nat.le_of_ble_eq_true rfl, Nat.le_of_ble_eq_true rfl⟩) (ff_preV (q := (RX5, TX5, 13)) (ci := 5) (q0 := 0) hPc hK hDc hN rfl rfl) rfl rfl hl.1 rfl (lv_room (Nat.le_of_ble_eq_true rfl)) dX5_make_109 ⟨Nat.le_of_ble_eq_true rfl, Nat.le_of_ble_eq_true rfl⟩) hP hD hS hA [0, 1, 2, 3, 4, 5, 6, 7] [] (wr := []) rfl rfl (by decide) (by decide) (fun r u H locs hw hP hD hS => ?_)
      replace hw := hw.symm
      subst hw
      have hP : va_P D vwCl [(mh, .inr (5, [.int rw, .int co, .ref mb, .int cl', .int fi', .ref ml, .ref mv, .ref mo, .ref mg, .ref mt, .ref mk, .long st', .int th'])), (mb, .inl (cI, 12, .inl bd')), (ml, .inl (cI, 12, .inl lf)), (mv, .inl (cI, 10, .inl hf')), (mo, .inl (cI, 12, .inl of')), (mg, .inl (cI, 12, .inl gf')), (mt, .inl (cI, 12, .inl tf')), (mk, .inl (cI, 12, .inl kf))] H := hP
      have hD : va_D A [(mh, .inr (5, [.int rw, .int co, .ref mb, .int cl', .int fi', .ref ml, .ref mv, .ref mo, .ref mg, .ref mt, .ref mk, .long st', .int th'])), (mb, .inl (cI, 12, .inl bd')), (ml, .inl (cI, 12, .inl lf)), (mv, .inl (cI, 10, .inl hf')), (mo, .inl (cI, 12, .inl of')), (mg, .inl (cI, 12, .inl gf')), (mt, .inl (cI, 12, .inl tf')), (mk, .inl (cI, 12, .inl kf))] := hD
      refine lv_icmp_ge (tgt := 217) hx hb dX5_make_112 (by decide) (fun c_1 => ?_) (fun c_1 => ?_)
      · have h := h.1 c_1
        refine lv_aload_n hx hb dX5_make_217 rfl (lv_at hl 0 rfl) ?_
        refine va_get (D := D) (ci := 5) (v := .int cl') (C := RX5) (T := TX5) (N := 13) hx hb hts nX5_make_wsX50 hown hK hP 0 rfl rfl 3 (by decide) (hts _ kX5_make_5) (fun _ h9 => h9) rfl dX5_make_218 ?_
        have hPc := hP.sub (ws' := []) [] rfl
        have hDc := hD.sub (ws' := []) [] (by decide) rfl
        refine ff_callI (va_runS (As := [.int cl']) (rest := []) ⟨hx, hb, hml, hown, hts⟩ (c_X5_count l D cI H.size cl') (va_cwS 1 hts gX5_make_X5_count rfl rfl rfl (by decide +kernel) ⟨Nat.le_of_ble_eq_true rfl, Nat.le_of_ble_eq_true rfl⟩) (ff_preS hPc hK hDc hN) rfl rfl hl.1 rfl (lv_room (Nat.le_of_ble_eq_true rfl)) dX5_make_221 ⟨Nat.le_of_ble_eq_true rfl, Nat.le_of_ble_eq_true rfl⟩) hP hD hS hA [] [0, 1, 2, 3, 4, 5, 6, 7] (wr := [(mh, .inr (5, [.int rw, .int co, .ref mb, .int cl', .int fi', .ref ml, .ref mv, .ref mo, .ref mg, .ref mt, .ref mk, .long st', .int th'])), (mb, .inl (cI, 12, .inl bd')), (ml, .inl (cI, 12, .inl lf)), (mv, .inl (cI, 10, .inl hf')), (mo, .inl (cI, 12, .inl of')), (mg, .inl (cI, 12, .inl gf')), (mt, .inl (cI, 12, .inl tf')), (mk, .inl (cI, 12, .inl kf))]) rfl rfl (by decide) (by decide) (fun r u H locs hw hP hD hS => ?_)
        replace hw := hw.symm
        subst hw
        have hP : va_P D vwCl [(mh, .inr (5, [.int rw, .int co, .ref mb, .int cl', .int fi', .ref ml, .ref mv, .ref mo, .ref mg, .ref mt, .ref mk, .long st', .int th'])), (mb, .inl (cI, 12, .inl bd')), (ml, .inl (cI, 12, .inl lf)), (mv, .inl (cI, 10, .inl hf')), (mo, .inl (cI, 12, .inl of')), (mg, .inl (cI, 12, .inl gf')), (mt, .inl (cI, 12, .inl tf')), (mk, .inl (cI, 12, .inl kf))] H := hP
        have hD : va_D A [(mh, .inr (5, [.int rw, .int co, .ref mb, .int cl', .int fi', .ref ml, .ref mv, .ref mo, .ref mg, .ref mt, .ref mk, .long st', .int th'])), (mb, .inl (cI, 12, .inl bd')), (ml, .inl (cI, 12, .inl lf)), (mv, .inl (cI, 10, .inl hf')), (mo, .inl (cI, 12, .inl of')), (mg, .inl (cI, 12, .inl gf')), (mt, .inl (cI, 12, .inl tf')), (mk, .inl (cI, 12, .inl kf))] := hD
        exact hret (mcn cl' 12) (th', bd', cl', fi', st', gf', hf', of', tf') _ _ _ _ _ _ h (hP.sub [0, 1, 2, 3, 4, 5, 6, 7] rfl) (hD.sub [0, 1, 2, 3, 4, 5, 6, 7] (by decide) rfl) hS (Nat.le_of_ble_eq_true rfl) (Nat.le_of_ble_eq_true rfl) dX5_make_224
      · have h := h.2 c_1
        refine lv_aload_n hx hb dX5_make_115 rfl (lv_at hl 0 rfl) ?_
        have hPc := hP.sub (ws' := [(mh, .inr (5, [.int rw, .int co, .ref mb, .int cl', .int fi', .ref ml, .ref mv, .ref mo, .ref mg, .ref mt, .ref mk, .long st', .int th'])), (mb, .inl (cI, 12, .inl bd')), (ml, .inl (cI, 12, .inl lf)), (mv, .inl (cI, 10, .inl hf')), (mo, .inl (cI, 12, .inl of')), (mg, .inl (cI, 12, .inl gf')), (mt, .inl (cI, 12, .inl tf')), (mk, .inl (cI, 12, .inl kf))]) [0, 1, 2, 3, 4, 5, 6, 7] rfl
        have hDc := hD.sub (ws' := [(mh, .inr (5, [.int rw, .int co, .ref mb, .int cl', .int fi', .ref ml, .ref mv, .ref mo, .ref mg, .ref mt, .ref mk, .long st', .int th'])), (mb, .inl (cI, 12, .inl bd')), (ml, .inl (cI, 12, .inl lf)), (mv, .inl (cI, 10, .inl hf')), (mo, .inl (cI, 12, .inl of')), (mg, .inl (cI, 12, .inl gf')), (mt, .inl (cI, 12, .inl tf')), (mk, .inl (cI, 12, .inl kf))]) [0, 1, 2, 3, 4, 5, 6, 7] (by decide) rfl
        refine ff_callI (va_runV (As := []) (rest := []) ⟨hx, hb, hml, hown, hts⟩ (c_X5_draw l D cI mh mb ml mv mo mg mt mk H.size rw co cl' fi' st' th' bd' lf hf' of' gf' tf' kf) (cwV 0 hts gX5_make_X5_draw rfl rfl rfl (by decide +kernel) ⟨Nat.le_of_ble_eq_true rfl, Nat.le_of_ble_eq_true rfl⟩) (ff_preV (q := (RX5, TX5, 13)) (ci := 5) (q0 := 0) hPc hK hDc hN rfl rfl) rfl rfl hl.1 rfl (lv_room (Nat.le_of_ble_eq_true rfl)) dX5_make_116 ⟨Nat.le_of_ble_eq_true rfl, Nat.le_of_ble_eq_true rfl⟩) hP hD hS hA [0, 1, 2, 3, 4, 5, 6, 7] [] (wr := []) rfl rfl (by decide) (by decide) (fun r u H locs hw hP hD hS => ?_)
        obtain ⟨e0_w, e1_w⟩ := hw
        replace e0_w := e0_w.symm
        subst e0_w
        replace e1_w := e1_w.symm
        subst e1_w
        have hP : va_P D vwCl [(mh, .inr (5, [.int rw, .int co, .ref mb, .int cl', .int fi', .ref ml, .ref mv, .ref mo, .ref mg, .ref mt, .ref mk, .long (mdr st'), .int th'])), (mb, .inl (cI, 12, .inl bd')), (ml, .inl (cI, 12, .inl lf)), (mv, .inl (cI, 10, .inl hf')), (mo, .inl (cI, 12, .inl of')), (mg, .inl (cI, 12, .inl gf')), (mt, .inl (cI, 12, .inl tf')), (mk, .inl (cI, 12, .inl kf))] H := hP
        have hD : va_D A [(mh, .inr (5, [.int rw, .int co, .ref mb, .int cl', .int fi', .ref ml, .ref mv, .ref mo, .ref mg, .ref mt, .ref mk, .long (mdr st'), .int th'])), (mb, .inl (cI, 12, .inl bd')), (ml, .inl (cI, 12, .inl lf)), (mv, .inl (cI, 10, .inl hf')), (mo, .inl (cI, 12, .inl of')), (mg, .inl (cI, 12, .inl gf')), (mt, .inl (cI, 12, .inl tf')), (mk, .inl (cI, 12, .inl kf))] := hD
        refine lv_aload_n hx hb dX5_make_119 rfl (lv_at hl 0 rfl) ?_
        have hPc := hP.sub (ws' := [(mh, .inr (5, [.int rw, .int co, .ref mb, .int cl', .int fi', .ref ml, .ref mv, .ref mo, .ref mg, .ref mt, .ref mk, .long (mdr st'), .int th'])), (mb, .inl (cI, 12, .inl bd')), (ml, .inl (cI, 12, .inl lf)), (mv, .inl (cI, 10, .inl hf')), (mo, .inl (cI, 12, .inl of')), (mg, .inl (cI, 12, .inl gf')), (mt, .inl (cI, 12, .inl tf')), (mk, .inl (cI, 12, .inl kf))]) [0, 1, 2, 3, 4, 5, 6, 7] rfl
        have hDc := hD.sub (ws' := [(mh, .inr (5, [.int rw, .int co, .ref mb, .int cl', .int fi', .ref ml, .ref mv, .ref mo, .ref mg, .ref mt, .ref mk, .long (mdr st'), .int th'])), (mb, .inl (cI, 12, .inl bd')), (ml, .inl (cI, 12, .inl lf)), (mv, .inl (cI, 10, .inl hf')), (mo, .inl (cI, 12, .inl of')), (mg, .inl (cI, 12, .inl gf')), (mt, .inl (cI, 12, .inl tf')), (mk, .inl (cI, 12, .inl kf))]) [0, 1, 2, 3, 4, 5, 6, 7] (by decide) rfl
        refine ff_callI (va_runV (As := []) (rest := [.int (mdi (mdr st'))]) ⟨hx, hb, hml, hown, hts⟩ (c_X5_cells l D cI mh mb ml mv mo mg mt mk H.size rw co cl' fi' (mdr st') th' bd' lf hf' of' gf' tf' kf) (cwV 0 hts gX5_make_X5_cells rfl rfl rfl (by decide +kernel) ⟨Nat.le_of_ble_eq_true rfl, Nat.le_of_ble_eq_true rfl⟩) (ff_preV (q := (RX5, TX5, 13)) (ci := 5) (q0 := 0) hPc hK hDc hN rfl rfl) rfl rfl hl.1 rfl (lv_room (Nat.le_of_ble_eq_true rfl)) dX5_make_120 ⟨Nat.le_of_ble_eq_true rfl, Nat.le_of_ble_eq_true rfl⟩) hP hD hS hA [0, 1, 2, 3, 4, 5, 6, 7] [] (wr := []) rfl rfl (by decide) (by decide) (fun r u H locs hw hP hD hS => ?_)
        replace hw := hw.symm
        subst hw
        have hP : va_P D vwCl [(mh, .inr (5, [.int rw, .int co, .ref mb, .int cl', .int fi', .ref ml, .ref mv, .ref mo, .ref mg, .ref mt, .ref mk, .long (mdr st'), .int th'])), (mb, .inl (cI, 12, .inl bd')), (ml, .inl (cI, 12, .inl lf)), (mv, .inl (cI, 10, .inl hf')), (mo, .inl (cI, 12, .inl of')), (mg, .inl (cI, 12, .inl gf')), (mt, .inl (cI, 12, .inl tf')), (mk, .inl (cI, 12, .inl kf))] H := hP
        have hD : va_D A [(mh, .inr (5, [.int rw, .int co, .ref mb, .int cl', .int fi', .ref ml, .ref mv, .ref mo, .ref mg, .ref mt, .ref mk, .long (mdr st'), .int th'])), (mb, .inl (cI, 12, .inl bd')), (ml, .inl (cI, 12, .inl lf)), (mv, .inl (cI, 10, .inl hf')), (mo, .inl (cI, 12, .inl of')), (mg, .inl (cI, 12, .inl gf')), (mt, .inl (cI, 12, .inl tf')), (mk, .inl (cI, 12, .inl kf))] := hD
        obtain ⟨n_2, h⟩ := h
        refine lv_irem hx hb dX5_make_123 n_2 ?_
        refine lv_topi (fun y_3 ey_3 => ?_)
        have h := h y_3 ey_3
        refine lv_istore_n (lv' := [(3, .int y_3), (0, .ref mh), (1, .int p1), (2, .int x2)]) hx hb dX5_make_124 rfl hl (by decide) rfl (fun ls hl => ?_)
        refine lv_aload_n hx hb dX5_make_125 rfl (lv_at hl 1 rfl) ?_
        refine va_get (D := D) (ci := 5) (v := .ref mb) (C := RX5) (T := TX5) (N := 13) hx hb hts nX5_make_wsX50 hown hK hP 0 rfl rfl 2 (by decide) (hts _ kX5_make_2) (fun _ h9 => h9) rfl dX5_make_126 ?_
        refine lv_iload_n hx hb dX5_make_129 rfl (lv_at hl 0 rfl) ?_
        obtain ⟨i_4, h⟩ := h
        refine va_iald hx hb hK hP 1 0 rfl rfl i_4 dX5_make_130 ?_
        refine lv_topi (fun y_5 ey_5 => ?_)
        have h := h y_5 ey_5
        refine lv_istore (lv' := [(4, .int y_5), (3, .int y_3), (0, .ref mh), (1, .int p1), (2, .int x2)]) hx hb dX5_make_131 hl (by decide) rfl (fun ls hl => ?_)
        refine lv_aload_n hx hb dX5_make_133 rfl (lv_at hl 2 rfl) ?_
        refine va_get (D := D) (ci := 5) (v := .ref mb) (C := RX5) (T := TX5) (N := 13) hx hb hts nX5_make_wsX50 hown hK hP 0 rfl rfl 2 (by decide) (hts _ kX5_make_2) (fun _ h9 => h9) rfl dX5_make_134 ?_
        refine lv_iload_n hx hb dX5_make_137 rfl (lv_at hl 1 rfl) ?_
        refine lv_iconst (v := 0) hx hb dX5_make_138 (by decide) ?_
        obtain ⟨i_6, h⟩ := h
        refine va_iast hx hb hK hP hD hS 1 0 rfl rfl i_6 dX5_make_139 (fun H locs hP hD hS => ?_)
        have hP : va_P D vwCl [(mh, .inr (5, [.int rw, .int co, .ref mb, .int cl', .int fi', .ref ml, .ref mv, .ref mo, .ref mg, .ref mt, .ref mk, .long (mdr st'), .int th'])), (mb, .inl (cI, 12, .inl (upd bd' y_3.toNatClampNeg 0))), (ml, .inl (cI, 12, .inl lf)), (mv, .inl (cI, 10, .inl hf')), (mo, .inl (cI, 12, .inl of')), (mg, .inl (cI, 12, .inl gf')), (mt, .inl (cI, 12, .inl tf')), (mk, .inl (cI, 12, .inl kf))] H := hP
        have hD : va_D A [(mh, .inr (5, [.int rw, .int co, .ref mb, .int cl', .int fi', .ref ml, .ref mv, .ref mo, .ref mg, .ref mt, .ref mk, .long (mdr st'), .int th'])), (mb, .inl (cI, 12, .inl (upd bd' y_3.toNatClampNeg 0))), (ml, .inl (cI, 12, .inl lf)), (mv, .inl (cI, 10, .inl hf')), (mo, .inl (cI, 12, .inl of')), (mg, .inl (cI, 12, .inl gf')), (mt, .inl (cI, 12, .inl tf')), (mk, .inl (cI, 12, .inl kf))] := hD
        refine lv_aload_n hx hb dX5_make_140 rfl (lv_at hl 2 rfl) ?_
        refine va_get (D := D) (ci := 5) (v := .int cl') (C := RX5) (T := TX5) (N := 13) hx hb hts nX5_make_wsX50 hown hK hP 0 rfl rfl 3 (by decide) (hts _ kX5_make_5) (fun _ h9 => h9) rfl dX5_make_141 ?_
        refine lv_iload_n hx hb dX5_make_144 rfl (lv_at hl 1 rfl) ?_
        have hPc := hP.sub (ws' := []) [] rfl
        have hDc := hD.sub (ws' := []) [] (by decide) rfl
        refine ff_callI (va_runS (As := [.int cl', .int y_3]) (rest := []) ⟨hx, hb, hml, hown, hts⟩ (c_X5_has l D cI H.size cl' y_3) (va_cwS 2 hts gX5_make_X5_has rfl rfl rfl (by decide +kernel) ⟨Nat.le_of_ble_eq_true rfl, Nat.le_of_ble_eq_true rfl⟩) (ff_preS hPc hK hDc hN) rfl rfl hl.1 rfl (lv_room (Nat.le_of_ble_eq_true rfl)) dX5_make_145 ⟨Nat.le_of_ble_eq_true rfl, Nat.le_of_ble_eq_true rfl⟩) hP hD hS hA [] [0, 1, 2, 3, 4, 5, 6, 7] (wr := [(mh, .inr (5, [.int rw, .int co, .ref mb, .int cl', .int fi', .ref ml, .ref mv, .ref mo, .ref mg, .ref mt, .ref mk, .long (mdr st'), .int th'])), (mb, .inl (cI, 12, .inl (upd bd' y_3.toNatClampNeg 0))), (ml, .inl (cI, 12, .inl lf)), (mv, .inl (cI, 10, .inl hf')), (mo, .inl (cI, 12, .inl of')), (mg, .inl (cI, 12, .inl gf')), (mt, .inl (cI, 12, .inl tf')), (mk, .inl (cI, 12, .inl kf))]) rfl rfl (by decide) (by decide) (fun r u H locs hw hP hD hS => ?_)
        replace hw := hw.symm
        subst hw
        have hP : va_P D vwCl [(mh, .inr (5, [.int rw, .int co, .ref mb, .int cl', .int fi', .ref ml, .ref mv, .ref mo, .ref mg, .ref mt, .ref mk, .long (mdr st'), .int th'])), (mb, .inl (cI, 12, .inl (upd bd' y_3.toNatClampNeg 0))), (ml, .inl (cI, 12, .inl lf)), (mv, .inl (cI, 10, .inl hf')), (mo, .inl (cI, 12, .inl of')), (mg, .inl (cI, 12, .inl gf')), (mt, .inl (cI, 12, .inl tf')), (mk, .inl (cI, 12, .inl kf))] H := hP
        have hD : va_D A [(mh, .inr (5, [.int rw, .int co, .ref mb, .int cl', .int fi', .ref ml, .ref mv, .ref mo, .ref mg, .ref mt, .ref mk, .long (mdr st'), .int th'])), (mb, .inl (cI, 12, .inl (upd bd' y_3.toNatClampNeg 0))), (ml, .inl (cI, 12, .inl lf)), (mv, .inl (cI, 10, .inl hf')), (mo, .inl (cI, 12, .inl of')), (mg, .inl (cI, 12, .inl gf')), (mt, .inl (cI, 12, .inl tf')), (mk, .inl (cI, 12, .inl kf))] := hD
        refine lv_if_eq (tgt := 165) hx hb dX5_make_148 (by decide) (fun c_7 => ?_) (fun c_7 => ?_)
        · have h := h.1 c_7
          refine lv_iconst (v := 0) hx hb dX5_make_165 (by decide) ?_
          refine lv_istore (lv' := [(5, .int 0), (4, .int y_5), (3, .int y_3), (0, .ref mh), (1, .int p1), (2, .int x2)]) hx hb dX5_make_166 hl (by decide) rfl (fun ls hl => ?_)
          refine lv_aload_n hx hb dX5_make_168 rfl (lv_at hl 3 rfl) ?_
          refine lv_iload hx hb dX5_make_169 (lv_at hl 0 rfl) ?_
          refine lv_if_eq (tgt := 187) hx hb dX5_make_171 (by decide) (fun _ => ?_) (fun c_8 => absurd c_8 (by decide))
          refine lv_aload_n hx hb dX5_make_187 rfl (lv_at hl 3 rfl) ?_
          refine va_get (D := D) (ci := 5) (v := .int cl') (C := RX5) (T := TX5) (N := 13) hx hb hts nX5_make_wsX50 hown hK hP 0 rfl rfl 3 (by decide) (hts _ kX5_make_5) (fun _ h9 => h9) rfl dX5_make_188 ?_
          refine va_put (D := D) (ci := 5) (v := .int cl') (ty := .int) (C := RX5) (T := TX5) (N := 13) hx hb hts nX5_make_wsX50 tyX5 tyX5_ok nmX5 hown hK hP hD hS 0 rfl rfl 3 (by decide) (hts _ kX5_make_5) (fun _ h9 => h9) rfl (by decide +kernel) rfl rfl (Nat.le_of_ble_eq_true rfl) dX5_make_191 (fun H locs hP hD hS => ?_)
          have hP : va_P D vwCl [(mh, .inr (5, [.int rw, .int co, .ref mb, .int cl', .int fi', .ref ml, .ref mv, .ref mo, .ref mg, .ref mt, .ref mk, .long (mdr st'), .int th'])), (mb, .inl (cI, 12, .inl (upd bd' y_3.toNatClampNeg 0))), (ml, .inl (cI, 12, .inl lf)), (mv, .inl (cI, 10, .inl hf')), (mo, .inl (cI, 12, .inl of')), (mg, .inl (cI, 12, .inl gf')), (mt, .inl (cI, 12, .inl tf')), (mk, .inl (cI, 12, .inl kf))] H := hP
          have hD : va_D A [(mh, .inr (5, [.int rw, .int co, .ref mb, .int cl', .int fi', .ref ml, .ref mv, .ref mo, .ref mg, .ref mt, .ref mk, .long (mdr st'), .int th'])), (mb, .inl (cI, 12, .inl (upd bd' y_3.toNatClampNeg 0))), (ml, .inl (cI, 12, .inl lf)), (mv, .inl (cI, 10, .inl hf')), (mo, .inl (cI, 12, .inl of')), (mg, .inl (cI, 12, .inl gf')), (mt, .inl (cI, 12, .inl tf')), (mk, .inl (cI, 12, .inl kf))] := hD
          refine lv_aload_n hx hb dX5_make_194 rfl (lv_at hl 3 rfl) ?_
          refine va_get (D := D) (ci := 5) (v := .ref mb) (C := RX5) (T := TX5) (N := 13) hx hb hts nX5_make_wsX50 hown hK hP 0 rfl rfl 2 (by decide) (hts _ kX5_make_2) (fun _ h9 => h9) rfl dX5_make_195 ?_
          refine lv_iload_n hx hb dX5_make_198 rfl (lv_at hl 2 rfl) ?_
          refine lv_iload hx hb dX5_make_199 (lv_at hl 0 rfl) ?_
          refine lv_if_eq (tgt := 208) hx hb dX5_make_201 (by decide) (fun _ => ?_) (fun c_9 => absurd c_9 (by decide))
          refine lv_iload hx hb dX5_make_208 (lv_at hl 1 rfl) ?_
          obtain ⟨i_10, h⟩ := h
          refine va_iast hx hb hK hP hD hS 1 0 rfl rfl i_10 dX5_make_210 (fun H locs hP hD hS => ?_)
          have hP : va_P D vwCl [(mh, .inr (5, [.int rw, .int co, .ref mb, .int cl', .int fi', .ref ml, .ref mv, .ref mo, .ref mg, .ref mt, .ref mk, .long (mdr st'), .int th'])), (mb, .inl (cI, 12, .inl (upd (upd bd' y_3.toNatClampNeg 0) y_3.toNatClampNeg y_5))), (ml, .inl (cI, 12, .inl lf)), (mv, .inl (cI, 10, .inl hf')), (mo, .inl (cI, 12, .inl of')), (mg, .inl (cI, 12, .inl gf')), (mt, .inl (cI, 12, .inl tf')), (mk, .inl (cI, 12, .inl kf))] H := hP
          have hD : va_D A [(mh, .inr (5, [.int rw, .int co, .ref mb, .int cl', .int fi', .ref ml, .ref mv, .ref mo, .ref mg, .ref mt, .ref mk, .long (mdr st'), .int th'])), (mb, .inl (cI, 12, .inl (upd (upd bd' y_3.toNatClampNeg 0) y_3.toNatClampNeg y_5))), (ml, .inl (cI, 12, .inl lf)), (mv, .inl (cI, 10, .inl hf')), (mo, .inl (cI, 12, .inl of')), (mg, .inl (cI, 12, .inl gf')), (mt, .inl (cI, 12, .inl tf')), (mk, .inl (cI, 12, .inl kf))] := hD
          obtain ⟨y_11, ey_11⟩ : ∃ y : Int32, y = x2 + 1 := ⟨_, rfl⟩
          have h := h y_11 ey_11
          refine lv_iinc (v := y_11) (lv' := [(2, .int y_11), (5, .int 0), (4, .int y_5), (3, .int y_3), (0, .ref mh), (1, .int p1)]) hx hb dX5_make_211 hl (k := 5) rfl (by rw [ey_11]; rfl) (by decide) rfl (fun ls hl => ?_)
          refine lv_goto (tgt := 107) hx hb dX5_make_214 (by decide) ?_
          exact ih _ _ _ _ _ _ _ _ _ _ _ _ _ h.1 (Nat.lt_of_lt_of_le h.2 (Nat.le_of_lt_succ hmu)) (hP.sub [0, 1, 2, 3, 4, 5, 6, 7] rfl) (hD.sub [0, 1, 2, 3, 4, 5, 6, 7] (by decide) rfl) hS (lv_sub hl [4, 5, 0] rfl)
        · have h := h.2 c_7
          refine lv_aload_n hx hb dX5_make_151 rfl (lv_at hl 2 rfl) ?_
          refine lv_iconst (v := 2) hx hb dX5_make_152 (by decide) ?_
          refine lv_iconst (v := 0) hx hb dX5_make_153 (by decide) ?_
          obtain ⟨p_12, h⟩ := h
          have hPc := hP.sub (ws' := [(mh, .inr (5, [.int rw, .int co, .ref mb, .int cl', .int fi', .ref ml, .ref mv, .ref mo, .ref mg, .ref mt, .ref mk, .long (mdr st'), .int th'])), (mb, .inl (cI, 12, .inl (upd bd' y_3.toNatClampNeg 0))), (ml, .inl (cI, 12, .inl lf)), (mv, .inl (cI, 10, .inl hf')), (mo, .inl (cI, 12, .inl of')), (mg, .inl (cI, 12, .inl gf')), (mt, .inl (cI, 12, .inl tf')), (mk, .inl (cI, 12, .inl kf))]) [0, 1, 2, 3, 4, 5, 6, 7] rfl
          have hDc := hD.sub (ws' := [(mh, .inr (5, [.int rw, .int co, .ref mb, .int cl', .int fi', .ref ml, .ref mv, .ref mo, .ref mg, .ref mt, .ref mk, .long (mdr st'), .int th'])), (mb, .inl (cI, 12, .inl (upd bd' y_3.toNatClampNeg 0))), (ml, .inl (cI, 12, .inl lf)), (mv, .inl (cI, 10, .inl hf')), (mo, .inl (cI, 12, .inl of')), (mg, .inl (cI, 12, .inl gf')), (mt, .inl (cI, 12, .inl tf')), (mk, .inl (cI, 12, .inl kf))]) [0, 1, 2, 3, 4, 5, 6, 7] (by decide) rfl
          refine ff_callI (va_runV (As := [.int 2, .int 0]) (rest := []) ⟨hx, hb, hml, hown, hts⟩ (c_X5_searches l D cI mh mb ml mv mo mg mt mk H.size rw co cl' fi' (mdr st') th' (upd bd' y_3.toNatClampNeg 0) lf hf' of' gf' tf' kf 2 0 p_12) (cwV 2 hts gX5_make_X5_searches rfl rfl rfl (by decide +kernel) ⟨Nat.le_of_ble_eq_true rfl, Nat.le_of_ble_eq_true rfl⟩) (ff_preV (q := (RX5, TX5, 13)) (ci := 5) (q0 := 0) hPc hK hDc hN rfl rfl) rfl rfl hl.1 rfl (lv_room (Nat.le_of_ble_eq_true rfl)) dX5_make_154 ⟨Nat.le_of_ble_eq_true rfl, Nat.le_of_ble_eq_true rfl⟩) hP hD hS hA [0, 1, 2, 3, 4, 5, 6, 7] [] (wr := []) rfl rfl (by decide) (by decide) (fun r u H locs hw hP hD hS => ?_)
          obtain ⟨ubd_13, hf_13, of_13, tf_13⟩ := u
          have hw : r = msR 2 (mall0 rw co (upd bd' y_3.toNatClampNeg 0) gf') ∧ ubd_13 = msB 2 0 (mall0 rw co (upd bd' y_3.toNatClampNeg 0) gf') (upd bd' y_3.toNatClampNeg 0) := hw
          obtain ⟨e0_w, e1_w⟩ := hw
          replace e0_w := e0_w.symm
          subst e0_w
          replace e1_w := e1_w.symm
          subst e1_w
          have h := h hf_13 of_13 tf_13
          have hP : va_P D vwCl [(mh, .inr (5, [.int rw, .int co, .ref mb, .int cl', .int fi', .ref ml, .ref mv, .ref mo, .ref mg, .ref mt, .ref mk, .long (mdr st'), .int th'])), (mb, .inl (cI, 12, .inl (msB 2 0 (mall0 rw co (upd bd' y_3.toNatClampNeg 0) gf') (upd bd' y_3.toNatClampNeg 0)))), (ml, .inl (cI, 12, .inl lf)), (mv, .inl (cI, 10, .inl hf_13)), (mo, .inl (cI, 12, .inl of_13)), (mg, .inl (cI, 12, .inl gf')), (mt, .inl (cI, 12, .inl tf_13)), (mk, .inl (cI, 12, .inl kf))] H := hP
          have hD : va_D A [(mh, .inr (5, [.int rw, .int co, .ref mb, .int cl', .int fi', .ref ml, .ref mv, .ref mo, .ref mg, .ref mt, .ref mk, .long (mdr st'), .int th'])), (mb, .inl (cI, 12, .inl (msB 2 0 (mall0 rw co (upd bd' y_3.toNatClampNeg 0) gf') (upd bd' y_3.toNatClampNeg 0)))), (ml, .inl (cI, 12, .inl lf)), (mv, .inl (cI, 10, .inl hf_13)), (mo, .inl (cI, 12, .inl of_13)), (mg, .inl (cI, 12, .inl gf')), (mt, .inl (cI, 12, .inl tf_13)), (mk, .inl (cI, 12, .inl kf))] := hD
          refine lv_iconst (v := 1) hx hb dX5_make_157 (by decide) ?_
          refine lv_icmp_ne (tgt := 165) hx hb dX5_make_158 (by decide) (fun c_14 => ?_) (fun c_14 => ?_)
          · have h := h.2 c_14
            refine lv_iconst (v := 0) hx hb dX5_make_165 (by decide) ?_
            refine lv_istore (lv' := [(5, .int 0), (4, .int y_5), (3, .int y_3), (0, .ref mh), (1, .int p1), (2, .int x2)]) hx hb dX5_make_166 hl (by decide) rfl (fun ls hl => ?_)
            refine lv_aload_n hx hb dX5_make_168 rfl (lv_at hl 3 rfl) ?_
            refine lv_iload hx hb dX5_make_169 (lv_at hl 0 rfl) ?_
            refine lv_if_eq (tgt := 187) hx hb dX5_make_171 (by decide) (fun _ => ?_) (fun c_15 => absurd c_15 (by decide))
            refine lv_aload_n hx hb dX5_make_187 rfl (lv_at hl 3 rfl) ?_
            refine va_get (D := D) (ci := 5) (v := .int cl') (C := RX5) (T := TX5) (N := 13) hx hb hts nX5_make_wsX50 hown hK hP 0 rfl rfl 3 (by decide) (hts _ kX5_make_5) (fun _ h9 => h9) rfl dX5_make_188 ?_
            refine va_put (D := D) (ci := 5) (v := .int cl') (ty := .int) (C := RX5) (T := TX5) (N := 13) hx hb hts nX5_make_wsX50 tyX5 tyX5_ok nmX5 hown hK hP hD hS 0 rfl rfl 3 (by decide) (hts _ kX5_make_5) (fun _ h9 => h9) rfl (by decide +kernel) rfl rfl (Nat.le_of_ble_eq_true rfl) dX5_make_191 (fun H locs hP hD hS => ?_)
            have hP : va_P D vwCl [(mh, .inr (5, [.int rw, .int co, .ref mb, .int cl', .int fi', .ref ml, .ref mv, .ref mo, .ref mg, .ref mt, .ref mk, .long (mdr st'), .int th'])), (mb, .inl (cI, 12, .inl (msB 2 0 (mall0 rw co (upd bd' y_3.toNatClampNeg 0) gf') (upd bd' y_3.toNatClampNeg 0)))), (ml, .inl (cI, 12, .inl lf)), (mv, .inl (cI, 10, .inl hf_13)), (mo, .inl (cI, 12, .inl of_13)), (mg, .inl (cI, 12, .inl gf')), (mt, .inl (cI, 12, .inl tf_13)), (mk, .inl (cI, 12, .inl kf))] H := hP
            have hD : va_D A [(mh, .inr (5, [.int rw, .int co, .ref mb, .int cl', .int fi', .ref ml, .ref mv, .ref mo, .ref mg, .ref mt, .ref mk, .long (mdr st'), .int th'])), (mb, .inl (cI, 12, .inl (msB 2 0 (mall0 rw co (upd bd' y_3.toNatClampNeg 0) gf') (upd bd' y_3.toNatClampNeg 0)))), (ml, .inl (cI, 12, .inl lf)), (mv, .inl (cI, 10, .inl hf_13)), (mo, .inl (cI, 12, .inl of_13)), (mg, .inl (cI, 12, .inl gf')), (mt, .inl (cI, 12, .inl tf_13)), (mk, .inl (cI, 12, .inl kf))] := hD
            refine lv_aload_n hx hb dX5_make_194 rfl (lv_at hl 3 rfl) ?_
            refine va_get (D := D) (ci := 5) (v := .ref mb) (C := RX5) (T := TX5) (N := 13) hx hb hts nX5_make_wsX50 hown hK hP 0 rfl rfl 2 (by decide) (hts _ kX5_make_2) (fun _ h9 => h9) rfl dX5_make_195 ?_
            refine lv_iload_n hx hb dX5_make_198 rfl (lv_at hl 2 rfl) ?_
            refine lv_iload hx hb dX5_make_199 (lv_at hl 0 rfl) ?_
            refine lv_if_eq (tgt := 208) hx hb dX5_make_201 (by decide) (fun _ => ?_) (fun c_16 => absurd c_16 (by decide))
            refine lv_iload hx hb dX5_make_208 (lv_at hl 1 rfl) ?_
            obtain ⟨i_17, h⟩ := h
            refine va_iast hx hb hK hP hD hS 1 0 rfl rfl i_17 dX5_make_210 (fun H locs hP hD hS => ?_)
            have hP : va_P D vwCl [(mh, .inr (5, [.int rw, .int co, .ref mb, .int cl', .int fi', .ref ml, .ref mv, .ref mo, .ref mg, .ref mt, .ref mk, .long (mdr st'), .int th'])), (mb, .inl (cI, 12, .inl (upd (msB 2 0 (mall0 rw co (upd bd' y_3.toNatClampNeg 0) gf') (upd bd' y_3.toNatClampNeg 0)) y_3.toNatClampNeg y_5))), (ml, .inl (cI, 12, .inl lf)), (mv, .inl (cI, 10, .inl hf_13)), (mo, .inl (cI, 12, .inl of_13)), (mg, .inl (cI, 12, .inl gf')), (mt, .inl (cI, 12, .inl tf_13)), (mk, .inl (cI, 12, .inl kf))] H := hP
            have hD : va_D A [(mh, .inr (5, [.int rw, .int co, .ref mb, .int cl', .int fi', .ref ml, .ref mv, .ref mo, .ref mg, .ref mt, .ref mk, .long (mdr st'), .int th'])), (mb, .inl (cI, 12, .inl (upd (msB 2 0 (mall0 rw co (upd bd' y_3.toNatClampNeg 0) gf') (upd bd' y_3.toNatClampNeg 0)) y_3.toNatClampNeg y_5))), (ml, .inl (cI, 12, .inl lf)), (mv, .inl (cI, 10, .inl hf_13)), (mo, .inl (cI, 12, .inl of_13)), (mg, .inl (cI, 12, .inl gf')), (mt, .inl (cI, 12, .inl tf_13)), (mk, .inl (cI, 12, .inl kf))] := hD
            obtain ⟨y_18, ey_18⟩ : ∃ y : Int32, y = x2 + 1 := ⟨_, rfl⟩
            have h := h y_18 ey_18
            refine lv_iinc (v := y_18) (lv' := [(2, .int y_18), (5, .int 0), (4, .int y_5), (3, .int y_3), (0, .ref mh), (1, .int p1)]) hx hb dX5_make_211 hl (k := 5) rfl (by rw [ey_18]; rfl) (by decide) rfl (fun ls hl => ?_)
            refine lv_goto (tgt := 107) hx hb dX5_make_214 (by decide) ?_
            exact ih _ _ _ _ _ _ _ _ _ _ _ _ _ h.1 (Nat.lt_of_lt_of_le h.2 (Nat.le_of_lt_succ hmu)) (hP.sub [0, 1, 2, 3, 4, 5, 6, 7] rfl) (hD.sub [0, 1, 2, 3, 4, 5, 6, 7] (by decide) rfl) hS (lv_sub hl [4, 5, 0] rfl)
          · have h := h.1 c_14
            refine lv_iconst (v := 1) hx hb dX5_make_161 (by decide) ?_
            refine lv_goto (tgt := 166) hx hb dX5_make_162 (by decide) ?_
            refine lv_istore (lv' := [(5, .int 1), (4, .int y_5), (3, .int y_3), (0, .ref mh), (1, .int p1), (2, .int x2)]) hx hb dX5_make_166 hl (by decide) rfl (fun ls hl => ?_)
            refine lv_aload_n hx hb dX5_make_168 rfl (lv_at hl 3 rfl) ?_
            refine lv_iload hx hb dX5_make_169 (lv_at hl 0 rfl) ?_
            refine lv_if_eq (tgt := 187) hx hb dX5_make_171 (by decide) (fun c_19 => absurd c_19 (by decide)) (fun _ => ?_)
            refine lv_aload_n hx hb dX5_make_174 rfl (lv_at hl 3 rfl) ?_
            refine va_get (D := D) (ci := 5) (v := .int cl') (C := RX5) (T := TX5) (N := 13) hx hb hts nX5_make_wsX50 hown hK hP 0 rfl rfl 3 (by decide) (hts _ kX5_make_5) (fun _ h9 => h9) rfl dX5_make_175 ?_
            refine lv_iconst (v := 1) hx hb dX5_make_178 (by decide) ?_
            refine lv_iload_n hx hb dX5_make_179 rfl (lv_at hl 2 rfl) ?_
            refine lv_ishl hx hb dX5_make_180 ?_
            refine lv_iconst (v := (-1)) hx hb dX5_make_181 (by decide) ?_
            refine lv_ixor hx hb dX5_make_182 ?_
            refine lv_iand hx hb dX5_make_183 ?_
            refine lv_goto (tgt := 191) hx hb dX5_make_184 (by decide) ?_
            refine va_put (D := D) (ci := 5) (v := .int (cl' &&& ((1 <<< (y_3 &&& 31)) ^^^ (-1)))) (ty := .int) (C := RX5) (T := TX5) (N := 13) hx hb hts nX5_make_wsX50 tyX5 tyX5_ok nmX5 hown hK hP hD hS 0 rfl rfl 3 (by decide) (hts _ kX5_make_5) (fun _ h9 => h9) rfl (by decide +kernel) rfl rfl (Nat.le_of_ble_eq_true rfl) dX5_make_191 (fun H locs hP hD hS => ?_)
            have hP : va_P D vwCl [(mh, .inr (5, [.int rw, .int co, .ref mb, .int (cl' &&& ((1 <<< (y_3 &&& 31)) ^^^ (-1))), .int fi', .ref ml, .ref mv, .ref mo, .ref mg, .ref mt, .ref mk, .long (mdr st'), .int th'])), (mb, .inl (cI, 12, .inl (msB 2 0 (mall0 rw co (upd bd' y_3.toNatClampNeg 0) gf') (upd bd' y_3.toNatClampNeg 0)))), (ml, .inl (cI, 12, .inl lf)), (mv, .inl (cI, 10, .inl hf_13)), (mo, .inl (cI, 12, .inl of_13)), (mg, .inl (cI, 12, .inl gf')), (mt, .inl (cI, 12, .inl tf_13)), (mk, .inl (cI, 12, .inl kf))] H := hP
            have hD : va_D A [(mh, .inr (5, [.int rw, .int co, .ref mb, .int (cl' &&& ((1 <<< (y_3 &&& 31)) ^^^ (-1))), .int fi', .ref ml, .ref mv, .ref mo, .ref mg, .ref mt, .ref mk, .long (mdr st'), .int th'])), (mb, .inl (cI, 12, .inl (msB 2 0 (mall0 rw co (upd bd' y_3.toNatClampNeg 0) gf') (upd bd' y_3.toNatClampNeg 0)))), (ml, .inl (cI, 12, .inl lf)), (mv, .inl (cI, 10, .inl hf_13)), (mo, .inl (cI, 12, .inl of_13)), (mg, .inl (cI, 12, .inl gf')), (mt, .inl (cI, 12, .inl tf_13)), (mk, .inl (cI, 12, .inl kf))] := hD
            refine lv_aload_n hx hb dX5_make_194 rfl (lv_at hl 3 rfl) ?_
            refine va_get (D := D) (ci := 5) (v := .ref mb) (C := RX5) (T := TX5) (N := 13) hx hb hts nX5_make_wsX50 hown hK hP 0 rfl rfl 2 (by decide) (hts _ kX5_make_2) (fun _ h9 => h9) rfl dX5_make_195 ?_
            refine lv_iload_n hx hb dX5_make_198 rfl (lv_at hl 2 rfl) ?_
            refine lv_iload hx hb dX5_make_199 (lv_at hl 0 rfl) ?_
            refine lv_if_eq (tgt := 208) hx hb dX5_make_201 (by decide) (fun c_20 => absurd c_20 (by decide)) (fun _ => ?_)
            refine lv_iconst (v := 0) hx hb dX5_make_204 (by decide) ?_
            refine lv_goto (tgt := 210) hx hb dX5_make_205 (by decide) ?_
            obtain ⟨i_21, h⟩ := h
            refine va_iast hx hb hK hP hD hS 1 0 rfl rfl i_21 dX5_make_210 (fun H locs hP hD hS => ?_)
            have hP : va_P D vwCl [(mh, .inr (5, [.int rw, .int co, .ref mb, .int (cl' &&& ((1 <<< (y_3 &&& 31)) ^^^ (-1))), .int fi', .ref ml, .ref mv, .ref mo, .ref mg, .ref mt, .ref mk, .long (mdr st'), .int th'])), (mb, .inl (cI, 12, .inl (upd (msB 2 0 (mall0 rw co (upd bd' y_3.toNatClampNeg 0) gf') (upd bd' y_3.toNatClampNeg 0)) y_3.toNatClampNeg 0))), (ml, .inl (cI, 12, .inl lf)), (mv, .inl (cI, 10, .inl hf_13)), (mo, .inl (cI, 12, .inl of_13)), (mg, .inl (cI, 12, .inl gf')), (mt, .inl (cI, 12, .inl tf_13)), (mk, .inl (cI, 12, .inl kf))] H := hP
            have hD : va_D A [(mh, .inr (5, [.int rw, .int co, .ref mb, .int (cl' &&& ((1 <<< (y_3 &&& 31)) ^^^ (-1))), .int fi', .ref ml, .ref mv, .ref mo, .ref mg, .ref mt, .ref mk, .long (mdr st'), .int th'])), (mb, .inl (cI, 12, .inl (upd (msB 2 0 (mall0 rw co (upd bd' y_3.toNatClampNeg 0) gf') (upd bd' y_3.toNatClampNeg 0)) y_3.toNatClampNeg 0))), (ml, .inl (cI, 12, .inl lf)), (mv, .inl (cI, 10, .inl hf_13)), (mo, .inl (cI, 12, .inl of_13)), (mg, .inl (cI, 12, .inl gf')), (mt, .inl (cI, 12, .inl tf_13)), (mk, .inl (cI, 12, .inl kf))] := hD
            obtain ⟨y_22, ey_22⟩ : ∃ y : Int32, y = x2 + 1 := ⟨_, rfl⟩
            have h := h y_22 ey_22
            refine lv_iinc (v := y_22) (lv' := [(2, .int y_22), (5, .int 1), (4, .int y_5), (3, .int y_3), (0, .ref mh), (1, .int p1)]) hx hb dX5_make_211 hl (k := 5) rfl (by rw [ey_22]; rfl) (by decide) rfl (fun ls hl => ?_)
            refine lv_goto (tgt := 107) hx hb dX5_make_214 (by decide) ?_
            exact ih _ _ _ _ _ _ _ _ _ _ _ _ _ h.1 (Nat.lt_of_lt_of_le h.2 (Nat.le_of_lt_succ hmu)) (hP.sub [0, 1, 2, 3, 4, 5, 6, 7] rfl) (hD.sub [0, 1, 2, 3, 4, 5, 6, 7] (by decide) rfl) hS (lv_sub hl [4, 5, 0] rfl)
  have L86 : ∀ (N : Nat) (x2 : Int32) (th' : Int32) (bd' : Nat → Int32) (cl' : Int32) (fi' : Int32) (st' : Int64) (gf' : Nat → Int32) (hf' : Nat → Int32) (of' : Nat → Int32) (tf' : Nat → Int32) (H : Heap) (locs : List Loc) (ls : Array Slot), I86 x2 th' bd' cl' fi' st' gf' hf' of' tf' → mu86 x2 th' bd' cl' fi' st' gf' hf' of' tf' < N → va_P D vwCl [(mh, .inr (5, [.int rw, .int co, .ref mb, .int cl', .int fi', .ref ml, .ref mv, .ref mo, .ref mg, .ref mt, .ref mk, .long st', .int th'])), (mb, .inl (cI, 12, .inl bd')), (ml, .inl (cI, 12, .inl lf)), (mv, .inl (cI, 10, .inl hf')), (mo, .inl (cI, 12, .inl of')), (mg, .inl (cI, 12, .inl gf')), (mt, .inl (cI, 12, .inl tf')), (mk, .inl (cI, 12, .inl kf))] H → va_D A [(mh, .inr (5, [.int rw, .int co, .ref mb, .int cl', .int fi', .ref ml, .ref mv, .ref mo, .ref mg, .ref mt, .ref mk, .long st', .int th'])), (mb, .inl (cI, 12, .inl bd')), (ml, .inl (cI, 12, .inl lf)), (mv, .inl (cI, 10, .inl hf')), (mo, .inl (cI, 12, .inl of')), (mg, .inl (cI, 12, .inl gf')), (mt, .inl (cI, 12, .inl tf')), (mk, .inl (cI, 12, .inl kf))] → va_S A s.heap H locs → lv_has ls 6 [(0, .ref mh), (1, .int p1), (2, .int x2)] → W p l e ({ frames := 7, cells := 0, slots := 0, locals := 160 } : Room) s m args below meth c H locs 0 0 Q (F0 m 86 ls []) := by
    intro N
    induction N with
    | zero => intros; rename_i hz _ _ _ _; exact absurd hz (Nat.not_lt_zero _)
    | succ N ih =>
      intro x2 th' bd' cl' fi' st' gf' hf' of' tf' H locs ls hI hmu hP hD hS hl
      have h := hv86 x2 th' bd' cl' fi' st' gf' hf' of' tf' hI
      unfold vs_X5_make_86 at h
      refine lv_iload_n hx hb dX5_make_86 rfl (lv_at hl 2 rfl) ?_
      refine lv_bipush (v := 12) hx hb dX5_make_87 (by decide) ?_
      refine lv_icmp_ge (tgt := 105) hx hb dX5_make_89 (by decide) (fun c_23 => ?_) (fun c_23 => ?_)
      · have h := h.1 c_23
        refine lv_iconst (v := 0) hx hb dX5_make_105 (by decide) ?_
        refine lv_istore_n (lv' := [(2, .int 0), (0, .ref mh), (1, .int p1)]) hx hb dX5_make_106 rfl hl (by decide) rfl (fun ls hl => ?_)
        exact L107 _ _ _ _ _ _ _ _ _ _ _ _ _ _ h (Nat.lt_succ_self _) (hP.sub [0, 1, 2, 3, 4, 5, 6, 7] rfl) (hD.sub [0, 1, 2, 3, 4, 5, 6, 7] (by decide) rfl) hS (lv_sub hl [1, 2, 0] rfl)
      · have h := h.2 c_23
        refine lv_aload_n hx hb dX5_make_92 rfl (lv_at hl 0 rfl) ?_
        refine va_get (D := D) (ci := 5) (v := .ref mg) (C := RX5) (T := TX5) (N := 13) hx hb hts nX5_make_wsX50 hown hK hP 0 rfl rfl 8 (by decide) (hts _ kX5_make_3) (fun _ h9 => h9) rfl dX5_make_93 ?_
        refine lv_iload_n hx hb dX5_make_96 rfl (lv_at hl 2 rfl) ?_
        refine lv_iconst (v := 0) hx hb dX5_make_97 (by decide) ?_
        obtain ⟨i_24, h⟩ := h
        refine va_iast hx hb hK hP hD hS 5 0 rfl rfl i_24 dX5_make_98 (fun H locs hP hD hS => ?_)
        have hP : va_P D vwCl [(mh, .inr (5, [.int rw, .int co, .ref mb, .int cl', .int fi', .ref ml, .ref mv, .ref mo, .ref mg, .ref mt, .ref mk, .long st', .int th'])), (mb, .inl (cI, 12, .inl bd')), (ml, .inl (cI, 12, .inl lf)), (mv, .inl (cI, 10, .inl hf')), (mo, .inl (cI, 12, .inl of')), (mg, .inl (cI, 12, .inl (upd gf' x2.toNatClampNeg 0))), (mt, .inl (cI, 12, .inl tf')), (mk, .inl (cI, 12, .inl kf))] H := hP
        have hD : va_D A [(mh, .inr (5, [.int rw, .int co, .ref mb, .int cl', .int fi', .ref ml, .ref mv, .ref mo, .ref mg, .ref mt, .ref mk, .long st', .int th'])), (mb, .inl (cI, 12, .inl bd')), (ml, .inl (cI, 12, .inl lf)), (mv, .inl (cI, 10, .inl hf')), (mo, .inl (cI, 12, .inl of')), (mg, .inl (cI, 12, .inl (upd gf' x2.toNatClampNeg 0))), (mt, .inl (cI, 12, .inl tf')), (mk, .inl (cI, 12, .inl kf))] := hD
        obtain ⟨y_25, ey_25⟩ : ∃ y : Int32, y = x2 + 1 := ⟨_, rfl⟩
        have h := h y_25 ey_25
        refine lv_iinc (v := y_25) (lv' := [(2, .int y_25), (0, .ref mh), (1, .int p1)]) hx hb dX5_make_99 hl (k := 2) rfl (by rw [ey_25]; rfl) (by decide) rfl (fun ls hl => ?_)
        refine lv_goto (tgt := 86) hx hb dX5_make_102 (by decide) ?_
        exact ih _ _ _ _ _ _ _ _ _ _ _ _ _ h.1 (Nat.lt_of_lt_of_le h.2 (Nat.le_of_lt_succ hmu)) (hP.sub [0, 1, 2, 3, 4, 5, 6, 7] rfl) (hD.sub [0, 1, 2, 3, 4, 5, 6, 7] (by decide) rfl) hS (lv_sub hl [1, 2, 0] rfl)
  have L26 : ∀ (N : Nat) (x2 : Int32) (th' : Int32) (bd' : Nat → Int32) (cl' : Int32) (fi' : Int32) (st' : Int64) (gf' : Nat → Int32) (hf' : Nat → Int32) (of' : Nat → Int32) (tf' : Nat → Int32) (H : Heap) (locs : List Loc) (ls : Array Slot), I26 x2 th' bd' cl' fi' st' gf' hf' of' tf' → mu26 x2 th' bd' cl' fi' st' gf' hf' of' tf' < N → va_P D vwCl [(mh, .inr (5, [.int rw, .int co, .ref mb, .int cl', .int fi', .ref ml, .ref mv, .ref mo, .ref mg, .ref mt, .ref mk, .long st', .int th'])), (mb, .inl (cI, 12, .inl bd')), (ml, .inl (cI, 12, .inl lf)), (mv, .inl (cI, 10, .inl hf')), (mo, .inl (cI, 12, .inl of')), (mg, .inl (cI, 12, .inl gf')), (mt, .inl (cI, 12, .inl tf')), (mk, .inl (cI, 12, .inl kf))] H → va_D A [(mh, .inr (5, [.int rw, .int co, .ref mb, .int cl', .int fi', .ref ml, .ref mv, .ref mo, .ref mg, .ref mt, .ref mk, .long st', .int th'])), (mb, .inl (cI, 12, .inl bd')), (ml, .inl (cI, 12, .inl lf)), (mv, .inl (cI, 10, .inl hf')), (mo, .inl (cI, 12, .inl of')), (mg, .inl (cI, 12, .inl gf')), (mt, .inl (cI, 12, .inl tf')), (mk, .inl (cI, 12, .inl kf))] → va_S A s.heap H locs → lv_has ls 6 [(0, .ref mh), (1, .int p1), (2, .int x2)] → W p l e ({ frames := 7, cells := 0, slots := 0, locals := 160 } : Room) s m args below meth c H locs 0 0 Q (F0 m 26 ls []) := by
    intro N
    induction N with
    | zero => intros; rename_i hz _ _ _ _; exact absurd hz (Nat.not_lt_zero _)
    | succ N ih =>
      intro x2 th' bd' cl' fi' st' gf' hf' of' tf' H locs ls hI hmu hP hD hS hl
      have h := hv26 x2 th' bd' cl' fi' st' gf' hf' of' tf' hI
      unfold vs_X5_make_26 at h
      refine lv_iload_n hx hb dX5_make_26 rfl (lv_at hl 2 rfl) ?_
      refine lv_aload_n hx hb dX5_make_27 rfl (lv_at hl 0 rfl) ?_
      have hPc := hP.sub (ws' := [(mh, .inr (5, [.int rw, .int co, .ref mb, .int cl', .int fi', .ref ml, .ref mv, .ref mo, .ref mg, .ref mt, .ref mk, .long st', .int th'])), (mb, .inl (cI, 12, .inl bd')), (ml, .inl (cI, 12, .inl lf)), (mv, .inl (cI, 10, .inl hf')), (mo, .inl (cI, 12, .inl of')), (mg, .inl (cI, 12, .inl gf')), (mt, .inl (cI, 12, .inl tf')), (mk, .inl (cI, 12, .inl kf))]) [0, 1, 2, 3, 4, 5, 6, 7] rfl
      have hDc := hD.sub (ws' := [(mh, .inr (5, [.int rw, .int co, .ref mb, .int cl', .int fi', .ref ml, .ref mv, .ref mo, .ref mg, .ref mt, .ref mk, .long st', .int th'])), (mb, .inl (cI, 12, .inl bd')), (ml, .inl (cI, 12, .inl lf)), (mv, .inl (cI, 10, .inl hf')), (mo, .inl (cI, 12, .inl of')), (mg, .inl (cI, 12, .inl gf')), (mt, .inl (cI, 12, .inl tf')), (mk, .inl (cI, 12, .inl kf))]) [0, 1, 2, 3, 4, 5, 6, 7] (by decide) rfl
      refine ff_callI (va_runV (As := []) (rest := [.int x2]) ⟨hx, hb, hml, hown, hts⟩ (c_X5_cells l D cI mh mb ml mv mo mg mt mk H.size rw co cl' fi' st' th' bd' lf hf' of' gf' tf' kf) (cwV 0 hts gX5_make_X5_cells rfl rfl rfl (by decide +kernel) ⟨Nat.le_of_ble_eq_true rfl, Nat.le_of_ble_eq_true rfl⟩) (ff_preV (q := (RX5, TX5, 13)) (ci := 5) (q0 := 0) hPc hK hDc hN rfl rfl) rfl rfl hl.1 rfl (lv_room (Nat.le_of_ble_eq_true rfl)) dX5_make_28 ⟨Nat.le_of_ble_eq_true rfl, Nat.le_of_ble_eq_true rfl⟩) hP hD hS hA [0, 1, 2, 3, 4, 5, 6, 7] [] (wr := []) rfl rfl (by decide) (by decide) (fun r u H locs hw hP hD hS => ?_)
      replace hw := hw.symm
      subst hw
      have hP : va_P D vwCl [(mh, .inr (5, [.int rw, .int co, .ref mb, .int cl', .int fi', .ref ml, .ref mv, .ref mo, .ref mg, .ref mt, .ref mk, .long st', .int th'])), (mb, .inl (cI, 12, .inl bd')), (ml, .inl (cI, 12, .inl lf)), (mv, .inl (cI, 10, .inl hf')), (mo, .inl (cI, 12, .inl of')), (mg, .inl (cI, 12, .inl gf')), (mt, .inl (cI, 12, .inl tf')), (mk, .inl (cI, 12, .inl kf))] H := hP
      have hD : va_D A [(mh, .inr (5, [.int rw, .int co, .ref mb, .int cl', .int fi', .ref ml, .ref mv, .ref mo, .ref mg, .ref mt, .ref mk, .long st', .int th'])), (mb, .inl (cI, 12, .inl bd')), (ml, .inl (cI, 12, .inl lf)), (mv, .inl (cI, 10, .inl hf')), (mo, .inl (cI, 12, .inl of')), (mg, .inl (cI, 12, .inl gf')), (mt, .inl (cI, 12, .inl tf')), (mk, .inl (cI, 12, .inl kf))] := hD
      refine lv_icmp_ge (tgt := 60) hx hb dX5_make_31 (by decide) (fun c_26 => ?_) (fun c_26 => ?_)
      · have h := h.1 c_26
        refine lv_aload_n hx hb dX5_make_60 rfl (lv_at hl 0 rfl) ?_
        refine lv_iconst (v := 0) hx hb dX5_make_61 (by decide) ?_
        refine va_put (D := D) (ci := 5) (v := .int 0) (ty := .int) (C := RX5) (T := TX5) (N := 13) hx hb hts nX5_make_wsX50 tyX5 tyX5_ok nmX5 hown hK hP hD hS 0 rfl rfl 4 (by decide) (hts _ kX5_make_4) (fun _ h9 => h9) rfl (by decide +kernel) rfl rfl (Nat.le_of_ble_eq_true rfl) dX5_make_62 (fun H locs hP hD hS => ?_)
        have hP : va_P D vwCl [(mh, .inr (5, [.int rw, .int co, .ref mb, .int cl', .int 0, .ref ml, .ref mv, .ref mo, .ref mg, .ref mt, .ref mk, .long st', .int th'])), (mb, .inl (cI, 12, .inl bd')), (ml, .inl (cI, 12, .inl lf)), (mv, .inl (cI, 10, .inl hf')), (mo, .inl (cI, 12, .inl of')), (mg, .inl (cI, 12, .inl gf')), (mt, .inl (cI, 12, .inl tf')), (mk, .inl (cI, 12, .inl kf))] H := hP
        have hD : va_D A [(mh, .inr (5, [.int rw, .int co, .ref mb, .int cl', .int 0, .ref ml, .ref mv, .ref mo, .ref mg, .ref mt, .ref mk, .long st', .int th'])), (mb, .inl (cI, 12, .inl bd')), (ml, .inl (cI, 12, .inl lf)), (mv, .inl (cI, 10, .inl hf')), (mo, .inl (cI, 12, .inl of')), (mg, .inl (cI, 12, .inl gf')), (mt, .inl (cI, 12, .inl tf')), (mk, .inl (cI, 12, .inl kf))] := hD
        refine lv_aload_n hx hb dX5_make_65 rfl (lv_at hl 0 rfl) ?_
        refine lv_iconst (v := 1) hx hb dX5_make_66 (by decide) ?_
        refine lv_iconst (v := 1) hx hb dX5_make_67 (by decide) ?_
        obtain ⟨p_27, h⟩ := h
        have hPc := hP.sub (ws' := [(mh, .inr (5, [.int rw, .int co, .ref mb, .int cl', .int 0, .ref ml, .ref mv, .ref mo, .ref mg, .ref mt, .ref mk, .long st', .int th'])), (mb, .inl (cI, 12, .inl bd')), (ml, .inl (cI, 12, .inl lf)), (mv, .inl (cI, 10, .inl hf')), (mo, .inl (cI, 12, .inl of')), (mg, .inl (cI, 12, .inl gf')), (mt, .inl (cI, 12, .inl tf')), (mk, .inl (cI, 12, .inl kf))]) [0, 1, 2, 3, 4, 5, 6, 7] rfl
        have hDc := hD.sub (ws' := [(mh, .inr (5, [.int rw, .int co, .ref mb, .int cl', .int 0, .ref ml, .ref mv, .ref mo, .ref mg, .ref mt, .ref mk, .long st', .int th'])), (mb, .inl (cI, 12, .inl bd')), (ml, .inl (cI, 12, .inl lf)), (mv, .inl (cI, 10, .inl hf')), (mo, .inl (cI, 12, .inl of')), (mg, .inl (cI, 12, .inl gf')), (mt, .inl (cI, 12, .inl tf')), (mk, .inl (cI, 12, .inl kf))]) [0, 1, 2, 3, 4, 5, 6, 7] (by decide) rfl
        refine ff_callI (va_runV (As := [.int 1, .int 1]) (rest := []) ⟨hx, hb, hml, hown, hts⟩ (c_X5_searches l D cI mh mb ml mv mo mg mt mk H.size rw co cl' 0 st' th' bd' lf hf' of' gf' tf' kf 1 1 p_27) (cwV 2 hts gX5_make_X5_searches rfl rfl rfl (by decide +kernel) ⟨Nat.le_of_ble_eq_true rfl, Nat.le_of_ble_eq_true rfl⟩) (ff_preV (q := (RX5, TX5, 13)) (ci := 5) (q0 := 0) hPc hK hDc hN rfl rfl) rfl rfl hl.1 rfl (lv_room (Nat.le_of_ble_eq_true rfl)) dX5_make_68 ⟨Nat.le_of_ble_eq_true rfl, Nat.le_of_ble_eq_true rfl⟩) hP hD hS hA [0, 1, 2, 3, 4, 5, 6, 7] [] (wr := []) rfl rfl (by decide) (by decide) (fun r u H locs hw hP hD hS => ?_)
        obtain ⟨ubd_28, hf_28, of_28, tf_28⟩ := u
        have hw : r = msR 1 (mall0 rw co bd' gf') ∧ ubd_28 = msB 1 1 (mall0 rw co bd' gf') bd' := hw
        obtain ⟨e0_w, e1_w⟩ := hw
        replace e0_w := e0_w.symm
        subst e0_w
        replace e1_w := e1_w.symm
        subst e1_w
        have h := h hf_28 of_28 tf_28
        have hP : va_P D vwCl [(mh, .inr (5, [.int rw, .int co, .ref mb, .int cl', .int 0, .ref ml, .ref mv, .ref mo, .ref mg, .ref mt, .ref mk, .long st', .int th'])), (mb, .inl (cI, 12, .inl (msB 1 1 (mall0 rw co bd' gf') bd'))), (ml, .inl (cI, 12, .inl lf)), (mv, .inl (cI, 10, .inl hf_28)), (mo, .inl (cI, 12, .inl of_28)), (mg, .inl (cI, 12, .inl gf')), (mt, .inl (cI, 12, .inl tf_28)), (mk, .inl (cI, 12, .inl kf))] H := hP
        have hD : va_D A [(mh, .inr (5, [.int rw, .int co, .ref mb, .int cl', .int 0, .ref ml, .ref mv, .ref mo, .ref mg, .ref mt, .ref mk, .long st', .int th'])), (mb, .inl (cI, 12, .inl (msB 1 1 (mall0 rw co bd' gf') bd'))), (ml, .inl (cI, 12, .inl lf)), (mv, .inl (cI, 10, .inl hf_28)), (mo, .inl (cI, 12, .inl of_28)), (mg, .inl (cI, 12, .inl gf')), (mt, .inl (cI, 12, .inl tf_28)), (mk, .inl (cI, 12, .inl kf))] := hD
        refine lv_pop hx hb dX5_make_71 rfl ?_
        refine lv_aload_n hx hb dX5_make_72 rfl (lv_at hl 0 rfl) ?_
        refine lv_iconst (v := 1) hx hb dX5_make_73 (by decide) ?_
        refine lv_aload_n hx hb dX5_make_74 rfl (lv_at hl 0 rfl) ?_
        have hPc := hP.sub (ws' := [(mh, .inr (5, [.int rw, .int co, .ref mb, .int cl', .int 0, .ref ml, .ref mv, .ref mo, .ref mg, .ref mt, .ref mk, .long st', .int th'])), (mb, .inl (cI, 12, .inl (msB 1 1 (mall0 rw co bd' gf') bd'))), (ml, .inl (cI, 12, .inl lf)), (mv, .inl (cI, 10, .inl hf_28)), (mo, .inl (cI, 12, .inl of_28)), (mg, .inl (cI, 12, .inl gf')), (mt, .inl (cI, 12, .inl tf_28)), (mk, .inl (cI, 12, .inl kf))]) [0, 1, 2, 3, 4, 5, 6, 7] rfl
        have hDc := hD.sub (ws' := [(mh, .inr (5, [.int rw, .int co, .ref mb, .int cl', .int 0, .ref ml, .ref mv, .ref mo, .ref mg, .ref mt, .ref mk, .long st', .int th'])), (mb, .inl (cI, 12, .inl (msB 1 1 (mall0 rw co bd' gf') bd'))), (ml, .inl (cI, 12, .inl lf)), (mv, .inl (cI, 10, .inl hf_28)), (mo, .inl (cI, 12, .inl of_28)), (mg, .inl (cI, 12, .inl gf')), (mt, .inl (cI, 12, .inl tf_28)), (mk, .inl (cI, 12, .inl kf))]) [0, 1, 2, 3, 4, 5, 6, 7] (by decide) rfl
        refine ff_callI (va_runV (As := []) (rest := [.int 1, .ref mh]) ⟨hx, hb, hml, hown, hts⟩ (c_X5_cells l D cI mh mb ml mv mo mg mt mk H.size rw co cl' 0 st' th' (msB 1 1 (mall0 rw co bd' gf') bd') lf hf_28 of_28 gf' tf_28 kf) (cwV 0 hts gX5_make_X5_cells rfl rfl rfl (by decide +kernel) ⟨Nat.le_of_ble_eq_true rfl, Nat.le_of_ble_eq_true rfl⟩) (ff_preV (q := (RX5, TX5, 13)) (ci := 5) (q0 := 0) hPc hK hDc hN rfl rfl) rfl rfl hl.1 rfl (lv_room (Nat.le_of_ble_eq_true rfl)) dX5_make_75 ⟨Nat.le_of_ble_eq_true rfl, Nat.le_of_ble_eq_true rfl⟩) hP hD hS hA [0, 1, 2, 3, 4, 5, 6, 7] [] (wr := []) rfl rfl (by decide) (by decide) (fun r u H locs hw hP hD hS => ?_)
        replace hw := hw.symm
        subst hw
        have hP : va_P D vwCl [(mh, .inr (5, [.int rw, .int co, .ref mb, .int cl', .int 0, .ref ml, .ref mv, .ref mo, .ref mg, .ref mt, .ref mk, .long st', .int th'])), (mb, .inl (cI, 12, .inl (msB 1 1 (mall0 rw co bd' gf') bd'))), (ml, .inl (cI, 12, .inl lf)), (mv, .inl (cI, 10, .inl hf_28)), (mo, .inl (cI, 12, .inl of_28)), (mg, .inl (cI, 12, .inl gf')), (mt, .inl (cI, 12, .inl tf_28)), (mk, .inl (cI, 12, .inl kf))] H := hP
        have hD : va_D A [(mh, .inr (5, [.int rw, .int co, .ref mb, .int cl', .int 0, .ref ml, .ref mv, .ref mo, .ref mg, .ref mt, .ref mk, .long st', .int th'])), (mb, .inl (cI, 12, .inl (msB 1 1 (mall0 rw co bd' gf') bd'))), (ml, .inl (cI, 12, .inl lf)), (mv, .inl (cI, 10, .inl hf_28)), (mo, .inl (cI, 12, .inl of_28)), (mg, .inl (cI, 12, .inl gf')), (mt, .inl (cI, 12, .inl tf_28)), (mk, .inl (cI, 12, .inl kf))] := hD
        refine lv_ishl hx hb dX5_make_78 ?_
        refine lv_iconst (v := 1) hx hb dX5_make_79 (by decide) ?_
        refine lv_isub hx hb dX5_make_80 ?_
        refine va_put (D := D) (ci := 5) (v := .int ((1 <<< ((rw * co) &&& 31)) - 1)) (ty := .int) (C := RX5) (T := TX5) (N := 13) hx hb hts nX5_make_wsX50 tyX5 tyX5_ok nmX5 hown hK hP hD hS 0 rfl rfl 3 (by decide) (hts _ kX5_make_5) (fun _ h9 => h9) rfl (by decide +kernel) rfl rfl (Nat.le_of_ble_eq_true rfl) dX5_make_81 (fun H locs hP hD hS => ?_)
        have hP : va_P D vwCl [(mh, .inr (5, [.int rw, .int co, .ref mb, .int ((1 <<< ((rw * co) &&& 31)) - 1), .int 0, .ref ml, .ref mv, .ref mo, .ref mg, .ref mt, .ref mk, .long st', .int th'])), (mb, .inl (cI, 12, .inl (msB 1 1 (mall0 rw co bd' gf') bd'))), (ml, .inl (cI, 12, .inl lf)), (mv, .inl (cI, 10, .inl hf_28)), (mo, .inl (cI, 12, .inl of_28)), (mg, .inl (cI, 12, .inl gf')), (mt, .inl (cI, 12, .inl tf_28)), (mk, .inl (cI, 12, .inl kf))] H := hP
        have hD : va_D A [(mh, .inr (5, [.int rw, .int co, .ref mb, .int ((1 <<< ((rw * co) &&& 31)) - 1), .int 0, .ref ml, .ref mv, .ref mo, .ref mg, .ref mt, .ref mk, .long st', .int th'])), (mb, .inl (cI, 12, .inl (msB 1 1 (mall0 rw co bd' gf') bd'))), (ml, .inl (cI, 12, .inl lf)), (mv, .inl (cI, 10, .inl hf_28)), (mo, .inl (cI, 12, .inl of_28)), (mg, .inl (cI, 12, .inl gf')), (mt, .inl (cI, 12, .inl tf_28)), (mk, .inl (cI, 12, .inl kf))] := hD
        refine lv_iconst (v := 0) hx hb dX5_make_84 (by decide) ?_
        refine lv_istore_n (lv' := [(2, .int 0), (0, .ref mh), (1, .int p1)]) hx hb dX5_make_85 rfl hl (by decide) rfl (fun ls hl => ?_)
        exact L86 _ _ _ _ _ _ _ _ _ _ _ _ _ _ h (Nat.lt_succ_self _) (hP.sub [0, 1, 2, 3, 4, 5, 6, 7] rfl) (hD.sub [0, 1, 2, 3, 4, 5, 6, 7] (by decide) rfl) hS (lv_sub hl [1, 2, 0] rfl)
      · have h := h.2 c_26
        refine lv_aload_n hx hb dX5_make_34 rfl (lv_at hl 0 rfl) ?_
        refine va_get (D := D) (ci := 5) (v := .ref mb) (C := RX5) (T := TX5) (N := 13) hx hb hts nX5_make_wsX50 hown hK hP 0 rfl rfl 2 (by decide) (hts _ kX5_make_2) (fun _ h9 => h9) rfl dX5_make_35 ?_
        refine lv_iload_n hx hb dX5_make_38 rfl (lv_at hl 2 rfl) ?_
        refine lv_iconst (v := 0) hx hb dX5_make_39 (by decide) ?_
        obtain ⟨i_29, h⟩ := h
        refine va_iast hx hb hK hP hD hS 1 0 rfl rfl i_29 dX5_make_40 (fun H locs hP hD hS => ?_)
        have hP : va_P D vwCl [(mh, .inr (5, [.int rw, .int co, .ref mb, .int cl', .int fi', .ref ml, .ref mv, .ref mo, .ref mg, .ref mt, .ref mk, .long st', .int th'])), (mb, .inl (cI, 12, .inl (upd bd' x2.toNatClampNeg 0))), (ml, .inl (cI, 12, .inl lf)), (mv, .inl (cI, 10, .inl hf')), (mo, .inl (cI, 12, .inl of')), (mg, .inl (cI, 12, .inl gf')), (mt, .inl (cI, 12, .inl tf')), (mk, .inl (cI, 12, .inl kf))] H := hP
        have hD : va_D A [(mh, .inr (5, [.int rw, .int co, .ref mb, .int cl', .int fi', .ref ml, .ref mv, .ref mo, .ref mg, .ref mt, .ref mk, .long st', .int th'])), (mb, .inl (cI, 12, .inl (upd bd' x2.toNatClampNeg 0))), (ml, .inl (cI, 12, .inl lf)), (mv, .inl (cI, 10, .inl hf')), (mo, .inl (cI, 12, .inl of')), (mg, .inl (cI, 12, .inl gf')), (mt, .inl (cI, 12, .inl tf')), (mk, .inl (cI, 12, .inl kf))] := hD
        refine lv_aload_n hx hb dX5_make_41 rfl (lv_at hl 0 rfl) ?_
        refine va_get (D := D) (ci := 5) (v := .ref mg) (C := RX5) (T := TX5) (N := 13) hx hb hts nX5_make_wsX50 hown hK hP 0 rfl rfl 8 (by decide) (hts _ kX5_make_3) (fun _ h9 => h9) rfl dX5_make_42 ?_
        refine lv_iload_n hx hb dX5_make_45 rfl (lv_at hl 2 rfl) ?_
        refine lv_aload_n hx hb dX5_make_46 rfl (lv_at hl 0 rfl) ?_
        have hPc := hP.sub (ws' := [(mh, .inr (5, [.int rw, .int co, .ref mb, .int cl', .int fi', .ref ml, .ref mv, .ref mo, .ref mg, .ref mt, .ref mk, .long st', .int th'])), (mb, .inl (cI, 12, .inl (upd bd' x2.toNatClampNeg 0))), (ml, .inl (cI, 12, .inl lf)), (mv, .inl (cI, 10, .inl hf')), (mo, .inl (cI, 12, .inl of')), (mg, .inl (cI, 12, .inl gf')), (mt, .inl (cI, 12, .inl tf')), (mk, .inl (cI, 12, .inl kf))]) [0, 1, 2, 3, 4, 5, 6, 7] rfl
        have hDc := hD.sub (ws' := [(mh, .inr (5, [.int rw, .int co, .ref mb, .int cl', .int fi', .ref ml, .ref mv, .ref mo, .ref mg, .ref mt, .ref mk, .long st', .int th'])), (mb, .inl (cI, 12, .inl (upd bd' x2.toNatClampNeg 0))), (ml, .inl (cI, 12, .inl lf)), (mv, .inl (cI, 10, .inl hf')), (mo, .inl (cI, 12, .inl of')), (mg, .inl (cI, 12, .inl gf')), (mt, .inl (cI, 12, .inl tf')), (mk, .inl (cI, 12, .inl kf))]) [0, 1, 2, 3, 4, 5, 6, 7] (by decide) rfl
        refine ff_callI (va_runV (As := []) (rest := [.int x2, .ref mg]) ⟨hx, hb, hml, hown, hts⟩ (c_X5_draw l D cI mh mb ml mv mo mg mt mk H.size rw co cl' fi' st' th' (upd bd' x2.toNatClampNeg 0) lf hf' of' gf' tf' kf) (cwV 0 hts gX5_make_X5_draw rfl rfl rfl (by decide +kernel) ⟨Nat.le_of_ble_eq_true rfl, Nat.le_of_ble_eq_true rfl⟩) (ff_preV (q := (RX5, TX5, 13)) (ci := 5) (q0 := 0) hPc hK hDc hN rfl rfl) rfl rfl hl.1 rfl (lv_room (Nat.le_of_ble_eq_true rfl)) dX5_make_47 ⟨Nat.le_of_ble_eq_true rfl, Nat.le_of_ble_eq_true rfl⟩) hP hD hS hA [0, 1, 2, 3, 4, 5, 6, 7] [] (wr := []) rfl rfl (by decide) (by decide) (fun r u H locs hw hP hD hS => ?_)
        obtain ⟨e0_w, e1_w⟩ := hw
        replace e0_w := e0_w.symm
        subst e0_w
        replace e1_w := e1_w.symm
        subst e1_w
        have hP : va_P D vwCl [(mh, .inr (5, [.int rw, .int co, .ref mb, .int cl', .int fi', .ref ml, .ref mv, .ref mo, .ref mg, .ref mt, .ref mk, .long (mdr st'), .int th'])), (mb, .inl (cI, 12, .inl (upd bd' x2.toNatClampNeg 0))), (ml, .inl (cI, 12, .inl lf)), (mv, .inl (cI, 10, .inl hf')), (mo, .inl (cI, 12, .inl of')), (mg, .inl (cI, 12, .inl gf')), (mt, .inl (cI, 12, .inl tf')), (mk, .inl (cI, 12, .inl kf))] H := hP
        have hD : va_D A [(mh, .inr (5, [.int rw, .int co, .ref mb, .int cl', .int fi', .ref ml, .ref mv, .ref mo, .ref mg, .ref mt, .ref mk, .long (mdr st'), .int th'])), (mb, .inl (cI, 12, .inl (upd bd' x2.toNatClampNeg 0))), (ml, .inl (cI, 12, .inl lf)), (mv, .inl (cI, 10, .inl hf')), (mo, .inl (cI, 12, .inl of')), (mg, .inl (cI, 12, .inl gf')), (mt, .inl (cI, 12, .inl tf')), (mk, .inl (cI, 12, .inl kf))] := hD
        refine lv_bipush (v := 9) hx hb dX5_make_50 (by decide) ?_
        refine lv_irem hx hb dX5_make_52 (by decide) ?_
        obtain ⟨i_30, h⟩ := h
        refine va_iast hx hb hK hP hD hS 5 0 rfl rfl i_30 dX5_make_53 (fun H locs hP hD hS => ?_)
        have hP : va_P D vwCl [(mh, .inr (5, [.int rw, .int co, .ref mb, .int cl', .int fi', .ref ml, .ref mv, .ref mo, .ref mg, .ref mt, .ref mk, .long (mdr st'), .int th'])), (mb, .inl (cI, 12, .inl (upd bd' x2.toNatClampNeg 0))), (ml, .inl (cI, 12, .inl lf)), (mv, .inl (cI, 10, .inl hf')), (mo, .inl (cI, 12, .inl of')), (mg, .inl (cI, 12, .inl (upd gf' x2.toNatClampNeg ((mdi (mdr st')) - (mdi (mdr st')) / 9 * 9)))), (mt, .inl (cI, 12, .inl tf')), (mk, .inl (cI, 12, .inl kf))] H := hP
        have hD : va_D A [(mh, .inr (5, [.int rw, .int co, .ref mb, .int cl', .int fi', .ref ml, .ref mv, .ref mo, .ref mg, .ref mt, .ref mk, .long (mdr st'), .int th'])), (mb, .inl (cI, 12, .inl (upd bd' x2.toNatClampNeg 0))), (ml, .inl (cI, 12, .inl lf)), (mv, .inl (cI, 10, .inl hf')), (mo, .inl (cI, 12, .inl of')), (mg, .inl (cI, 12, .inl (upd gf' x2.toNatClampNeg ((mdi (mdr st')) - (mdi (mdr st')) / 9 * 9)))), (mt, .inl (cI, 12, .inl tf')), (mk, .inl (cI, 12, .inl kf))] := hD
        obtain ⟨y_31, ey_31⟩ : ∃ y : Int32, y = x2 + 1 := ⟨_, rfl⟩
        have h := h y_31 ey_31
        refine lv_iinc (v := y_31) (lv' := [(2, .int y_31), (0, .ref mh), (1, .int p1)]) hx hb dX5_make_54 hl (k := 2) rfl (by rw [ey_31]; rfl) (by decide) rfl (fun ls hl => ?_)
        refine lv_goto (tgt := 26) hx hb dX5_make_57 (by decide) ?_
        exact ih _ _ _ _ _ _ _ _ _ _ _ _ _ h.1 (Nat.lt_of_lt_of_le h.2 (Nat.le_of_lt_succ hmu)) (hP.sub [0, 1, 2, 3, 4, 5, 6, 7] rfl) (hD.sub [0, 1, 2, 3, 4, 5, 6, 7] (by decide) rfl) hS (lv_sub hl [1, 2, 0] rfl)
  have h := he
  unfold ve_X5_make at h
  have hl : lv_has ls 6 [(0, .ref mh), (1, .int p1)] := hl
  refine lv_aload_n hx hb dX5_make_0 rfl (lv_at hl 0 rfl) ?_
  refine lv_iload_n hx hb dX5_make_1 rfl (lv_at hl 1 rfl) ?_
  refine lv_if_ge (tgt := 9) hx hb dX5_make_2 (by decide) (fun c_32 => ?_) (fun c_32 => ?_)
  · have h := h.1 c_32
    refine lv_iconst (v := 0) hx hb dX5_make_9 (by decide) ?_
    have hPc := hP.sub (ws' := [(mh, .inr (5, [.int rw, .int co, .ref mb, .int cl, .int fi, .ref ml, .ref mv, .ref mo, .ref mg, .ref mt, .ref mk, .long st, .int th])), (mb, .inl (cI, 12, .inl bd)), (ml, .inl (cI, 12, .inl lf)), (mv, .inl (cI, 10, .inl hf)), (mo, .inl (cI, 12, .inl of)), (mg, .inl (cI, 12, .inl gf)), (mt, .inl (cI, 12, .inl tf)), (mk, .inl (cI, 12, .inl kf))]) [0, 1, 2, 3, 4, 5, 6, 7] rfl
    have hDc := hD.sub (ws' := [(mh, .inr (5, [.int rw, .int co, .ref mb, .int cl, .int fi, .ref ml, .ref mv, .ref mo, .ref mg, .ref mt, .ref mk, .long st, .int th])), (mb, .inl (cI, 12, .inl bd)), (ml, .inl (cI, 12, .inl lf)), (mv, .inl (cI, 10, .inl hf)), (mo, .inl (cI, 12, .inl of)), (mg, .inl (cI, 12, .inl gf)), (mt, .inl (cI, 12, .inl tf)), (mk, .inl (cI, 12, .inl kf))]) [0, 1, 2, 3, 4, 5, 6, 7] (by decide) rfl
    refine ff_callI (va_runV (As := [.int 0]) (rest := []) ⟨hx, hb, hml, hown, hts⟩ (c_X5_can l D cI mh mb ml mv mo mg mt mk H.size rw co cl fi st th bd lf hf of gf tf kf 0) (cwV 1 hts gX5_make_X5_can rfl rfl rfl (by decide +kernel) ⟨Nat.le_of_ble_eq_true rfl, Nat.le_of_ble_eq_true rfl⟩) (ff_preV (q := (RX5, TX5, 13)) (ci := 5) (q0 := 0) hPc hK hDc hN rfl rfl) rfl rfl hl.1 rfl (lv_room (Nat.le_of_ble_eq_true rfl)) dX5_make_10 ⟨Nat.le_of_ble_eq_true rfl, Nat.le_of_ble_eq_true rfl⟩) hP hD hS hA [0, 1, 2, 3, 4, 5, 6, 7] [] (wr := []) rfl rfl (by decide) (by decide) (fun r u H locs hw hP hD hS => ?_)
    obtain ⟨e0_w, e1_w⟩ := hw
    replace e0_w := e0_w.symm
    subst e0_w
    replace e1_w := e1_w.symm
    subst e1_w
    have hP : va_P D vwCl [(mh, .inr (5, [.int rw, .int co, .ref mb, .int cl, .int fi, .ref ml, .ref mv, .ref mo, .ref mg, .ref mt, .ref mk, .long st, .int 0])), (mb, .inl (cI, 12, .inl bd)), (ml, .inl (cI, 12, .inl lf)), (mv, .inl (cI, 10, .inl hf)), (mo, .inl (cI, 12, .inl of)), (mg, .inl (cI, 12, .inl gf)), (mt, .inl (cI, 12, .inl tf)), (mk, .inl (cI, 12, .inl kf))] H := hP
    have hD : va_D A [(mh, .inr (5, [.int rw, .int co, .ref mb, .int cl, .int fi, .ref ml, .ref mv, .ref mo, .ref mg, .ref mt, .ref mk, .long st, .int 0])), (mb, .inl (cI, 12, .inl bd)), (ml, .inl (cI, 12, .inl lf)), (mv, .inl (cI, 10, .inl hf)), (mo, .inl (cI, 12, .inl of)), (mg, .inl (cI, 12, .inl gf)), (mt, .inl (cI, 12, .inl tf)), (mk, .inl (cI, 12, .inl kf))] := hD
    refine lv_if_ne (tgt := 18) hx hb dX5_make_13 (by decide) (fun _ => ?_) (fun c_33 => absurd c_33 (by decide))
    refine lv_aload_n hx hb dX5_make_18 rfl (lv_at hl 0 rfl) ?_
    refine lv_iload_n hx hb dX5_make_19 rfl (lv_at hl 1 rfl) ?_
    refine lv_i2l hx hb dX5_make_20 rfl ?_
    refine va_put (D := D) (ci := 5) (v := .long (p1.toInt64)) (ty := .long) (C := RX5) (T := TX5) (N := 13) hx hb hts nX5_make_wsX50 tyX5 tyX5_ok nmX5 hown hK hP hD hS 0 rfl rfl 11 (by decide) (hts _ kX5_make_1) (fun _ h9 => h9) rfl (by decide +kernel) rfl rfl (Nat.le_of_ble_eq_true rfl) dX5_make_21 (fun H locs hP hD hS => ?_)
    have hP : va_P D vwCl [(mh, .inr (5, [.int rw, .int co, .ref mb, .int cl, .int fi, .ref ml, .ref mv, .ref mo, .ref mg, .ref mt, .ref mk, .long (p1.toInt64), .int 0])), (mb, .inl (cI, 12, .inl bd)), (ml, .inl (cI, 12, .inl lf)), (mv, .inl (cI, 10, .inl hf)), (mo, .inl (cI, 12, .inl of)), (mg, .inl (cI, 12, .inl gf)), (mt, .inl (cI, 12, .inl tf)), (mk, .inl (cI, 12, .inl kf))] H := hP
    have hD : va_D A [(mh, .inr (5, [.int rw, .int co, .ref mb, .int cl, .int fi, .ref ml, .ref mv, .ref mo, .ref mg, .ref mt, .ref mk, .long (p1.toInt64), .int 0])), (mb, .inl (cI, 12, .inl bd)), (ml, .inl (cI, 12, .inl lf)), (mv, .inl (cI, 10, .inl hf)), (mo, .inl (cI, 12, .inl of)), (mg, .inl (cI, 12, .inl gf)), (mt, .inl (cI, 12, .inl tf)), (mk, .inl (cI, 12, .inl kf))] := hD
    refine lv_iconst (v := 0) hx hb dX5_make_24 (by decide) ?_
    refine lv_istore_n (lv' := [(2, .int 0), (0, .ref mh), (1, .int p1)]) hx hb dX5_make_25 rfl hl (by decide) rfl (fun ls hl => ?_)
    exact L26 _ _ _ _ _ _ _ _ _ _ _ _ _ _ h (Nat.lt_succ_self _) (hP.sub [0, 1, 2, 3, 4, 5, 6, 7] rfl) (hD.sub [0, 1, 2, 3, 4, 5, 6, 7] (by decide) rfl) hS (lv_sub hl [1, 2, 0] rfl)
  · have h := h.2 c_32
    refine lv_iconst (v := 1) hx hb dX5_make_5 (by decide) ?_
    refine lv_goto (tgt := 10) hx hb dX5_make_6 (by decide) ?_
    have hPc := hP.sub (ws' := [(mh, .inr (5, [.int rw, .int co, .ref mb, .int cl, .int fi, .ref ml, .ref mv, .ref mo, .ref mg, .ref mt, .ref mk, .long st, .int th])), (mb, .inl (cI, 12, .inl bd)), (ml, .inl (cI, 12, .inl lf)), (mv, .inl (cI, 10, .inl hf)), (mo, .inl (cI, 12, .inl of)), (mg, .inl (cI, 12, .inl gf)), (mt, .inl (cI, 12, .inl tf)), (mk, .inl (cI, 12, .inl kf))]) [0, 1, 2, 3, 4, 5, 6, 7] rfl
    have hDc := hD.sub (ws' := [(mh, .inr (5, [.int rw, .int co, .ref mb, .int cl, .int fi, .ref ml, .ref mv, .ref mo, .ref mg, .ref mt, .ref mk, .long st, .int th])), (mb, .inl (cI, 12, .inl bd)), (ml, .inl (cI, 12, .inl lf)), (mv, .inl (cI, 10, .inl hf)), (mo, .inl (cI, 12, .inl of)), (mg, .inl (cI, 12, .inl gf)), (mt, .inl (cI, 12, .inl tf)), (mk, .inl (cI, 12, .inl kf))]) [0, 1, 2, 3, 4, 5, 6, 7] (by decide) rfl
    refine ff_callI (va_runV (As := [.int 1]) (rest := []) ⟨hx, hb, hml, hown, hts⟩ (c_X5_can l D cI mh mb ml mv mo mg mt mk H.size rw co cl fi st th bd lf hf of gf tf kf 1) (cwV 1 hts gX5_make_X5_can rfl rfl rfl (by decide +kernel) ⟨Nat.le_of_ble_eq_true rfl, Nat.le_of_ble_eq_true rfl⟩) (ff_preV (q := (RX5, TX5, 13)) (ci := 5) (q0 := 0) hPc hK hDc hN rfl rfl) rfl rfl hl.1 rfl (lv_room (Nat.le_of_ble_eq_true rfl)) dX5_make_10 ⟨Nat.le_of_ble_eq_true rfl, Nat.le_of_ble_eq_true rfl⟩) hP hD hS hA [0, 1, 2, 3, 4, 5, 6, 7] [] (wr := []) rfl rfl (by decide) (by decide) (fun r u H locs hw hP hD hS => ?_)
    obtain ⟨e0_w, e1_w⟩ := hw
    replace e0_w := e0_w.symm
    subst e0_w
    replace e1_w := e1_w.symm
    subst e1_w
    have hP : va_P D vwCl [(mh, .inr (5, [.int rw, .int co, .ref mb, .int cl, .int fi, .ref ml, .ref mv, .ref mo, .ref mg, .ref mt, .ref mk, .long st, .int 1])), (mb, .inl (cI, 12, .inl bd)), (ml, .inl (cI, 12, .inl lf)), (mv, .inl (cI, 10, .inl hf)), (mo, .inl (cI, 12, .inl of)), (mg, .inl (cI, 12, .inl gf)), (mt, .inl (cI, 12, .inl tf)), (mk, .inl (cI, 12, .inl kf))] H := hP
    have hD : va_D A [(mh, .inr (5, [.int rw, .int co, .ref mb, .int cl, .int fi, .ref ml, .ref mv, .ref mo, .ref mg, .ref mt, .ref mk, .long st, .int 1])), (mb, .inl (cI, 12, .inl bd)), (ml, .inl (cI, 12, .inl lf)), (mv, .inl (cI, 10, .inl hf)), (mo, .inl (cI, 12, .inl of)), (mg, .inl (cI, 12, .inl gf)), (mt, .inl (cI, 12, .inl tf)), (mk, .inl (cI, 12, .inl kf))] := hD
    refine lv_if_ne (tgt := 18) hx hb dX5_make_13 (by decide) (fun c_34 => absurd c_34 (by decide)) (fun _ => ?_)
    refine lv_iconst (v := 0) hx hb dX5_make_16 (by decide) ?_
    exact hret 0 (1, bd, cl, fi, st, gf, hf, of, tf) _ _ _ _ _ _ h (hP.sub [0, 1, 2, 3, 4, 5, 6, 7] rfl) (hD.sub [0, 1, 2, 3, 4, 5, 6, 7] (by decide) rfl) hS (Nat.le_of_ble_eq_true rfl) (Nat.le_of_ble_eq_true rfl) dX5_make_17
theorem c_X5_make (l : Launch) (D : va_G) (cI : ClassId) (mh mb ml mv mo mg mt mk : Nat) (sz : Nat) (rw : Int32) (co : Int32) (cl : Int32) (fi : Int32) (st : Int64) (th : Int32) (bd : Nat → Int32) (lf : Nat → Int32) (hf : Nat → Int32) (of : Nat → Int32) (gf : Nat → Int32) (tf : Nat → Int32) (kf : Nat → Int32) (p1 : Int32) (hpre : mok rw co bd ∧ (∀ k, k < 12 → vp_in (gf k) 9) ∧ 1 ≤ mN rw co) : Met l yX5_make wsX5_make ({ frames := 7, cells := 0, slots := 0, locals := 160 } : Room) (ff_Pc D [(cI, .int)] [.ref mh, .int p1] ([(mh, .inr (5, [.int rw, .int co, .ref mb, .int cl, .int fi, .ref ml, .ref mv, .ref mo, .ref mg, .ref mt, .ref mk, .long st, .int th])), (mb, .inl (cI, 12, .inl bd)), (ml, .inl (cI, 12, .inl lf)), (mv, .inl (cI, 10, .inl hf)), (mo, .inl (cI, 12, .inl of)), (mg, .inl (cI, 12, .inl gf)), (mt, .inl (cI, 12, .inl tf)), (mk, .inl (cI, 12, .inl kf))] : va_W) sz) (va_Qi (fun (r : Int32) (u : Int32 × (Nat → Int32) × Int32 × Int32 × Int64 × (Nat → Int32) × (Nat → Int32) × (Nat → Int32) × (Nat → Int32)) => r = (if p1 < 0 then 0 else mcn ((mmk rw co bd gf p1)).2 12) ∧ u.1 = (if p1 < 0 then 1 else 0) ∧ u.2.1 = (if p1 < 0 then bd else ((mmk rw co bd gf p1)).1) ∧ u.2.2.1 = (if p1 < 0 then cl else ((mmk rw co bd gf p1)).2) ∧ u.2.2.2.1 = (if p1 < 0 then fi else 0) ∧ u.2.2.2.2.2.1 = (if p1 < 0 then gf else mz12 gf)) (fun (u : Int32 × (Nat → Int32) × Int32 × Int32 × Int64 × (Nat → Int32) × (Nat → Int32) × (Nat → Int32) × (Nat → Int32)) t => ff_B D [(cI, .int)] (va_A ([(mh, .inr (5, [.int rw, .int co, .ref mb, .int cl, .int fi, .ref ml, .ref mv, .ref mo, .ref mg, .ref mt, .ref mk, .long st, .int th])), (mb, .inl (cI, 12, .inl bd)), (ml, .inl (cI, 12, .inl lf)), (mv, .inl (cI, 10, .inl hf)), (mo, .inl (cI, 12, .inl of)), (mg, .inl (cI, 12, .inl gf)), (mt, .inl (cI, 12, .inl tf)), (mk, .inl (cI, 12, .inl kf))] : va_W) sz) [(mh, .inr (5, [.int rw, .int co, .ref mb, .int (u.2.2.1), .int (u.2.2.2.1), .ref ml, .ref mv, .ref mo, .ref mg, .ref mt, .ref mk, .long (u.2.2.2.2.1), .int (u.1)])), (mb, .inl (cI, 12, .inl (u.2.1))), (ml, .inl (cI, 12, .inl lf)), (mv, .inl (cI, 10, .inl (u.2.2.2.2.2.2.1))), (mo, .inl (cI, 12, .inl (u.2.2.2.2.2.2.2.1))), (mg, .inl (cI, 12, .inl (u.2.2.2.2.2.1))), (mt, .inl (cI, 12, .inl (u.2.2.2.2.2.2.2.2))), (mk, .inl (cI, 12, .inl kf))] t) (va_A ([(mh, .inr (5, [.int rw, .int co, .ref mb, .int cl, .int fi, .ref ml, .ref mv, .ref mo, .ref mg, .ref mt, .ref mk, .long st, .int th])), (mb, .inl (cI, 12, .inl bd)), (ml, .inl (cI, 12, .inl lf)), (mv, .inl (cI, 10, .inl hf)), (mo, .inl (cI, 12, .inl of)), (mg, .inl (cI, 12, .inl gf)), (mt, .inl (cI, 12, .inl tf)), (mk, .inl (cI, 12, .inl kf))] : va_W) sz)) 0 0 (va_A ([(mh, .inr (5, [.int rw, .int co, .ref mb, .int cl, .int fi, .ref ml, .ref mv, .ref mo, .ref mg, .ref mt, .ref mk, .long st, .int th])), (mb, .inl (cI, 12, .inl bd)), (ml, .inl (cI, 12, .inl lf)), (mv, .inl (cI, 10, .inl hf)), (mo, .inl (cI, 12, .inl of)), (mg, .inl (cI, 12, .inl gf)), (mt, .inl (cI, 12, .inl tf)), (mk, .inl (cI, 12, .inl kf))] : va_W) sz) :=
  a_X5_make l D cI mh mb ml mv mo mg mt mk sz rw co cl fi st th bd lf hf of gf tf kf p1 _ (I_X5_make_26 rw co cl fi st th bd lf hf of gf tf kf p1) (mu_X5_make_26 rw co cl fi st th bd lf hf of gf tf kf p1) (I_X5_make_86 rw co cl fi st th bd lf hf of gf tf kf p1) (mu_X5_make_86 rw co cl fi st th bd lf hf of gf tf kf p1) (I_X5_make_107 rw co cl fi st th bd lf hf of gf tf kf p1) (mu_X5_make_107 rw co cl fi st th bd lf hf of gf tf kf p1) (pl_X5_make_26 rw co cl fi st th bd lf hf of gf tf kf p1 hpre) (pl_X5_make_86 rw co cl fi st th bd lf hf of gf tf kf p1 hpre) (pl_X5_make_107 rw co cl fi st th bd lf hf of gf tf kf p1 hpre) (pe_X5_make rw co cl fi st th bd lf hf of gf tf kf p1 hpre)
