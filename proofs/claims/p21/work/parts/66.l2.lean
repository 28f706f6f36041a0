def vs_L_isBoard_45 (lgd : Int32) (ccc : Int32) (cac : Int32) (cfc : Int32) (clc : Int32) (cf : Nat → Int32) (bcc : Int32) (bac : Int32) (bfc : Int32) (blc : Int32) (bf : Nat → Int32) (lgf : Nat → Int32) (cnt : Int32) (call : Int32) (swf : Nat → Int32) (fnf : Nat → Int32) (fb : Nat → Int32) (fk : Nat → Int32) (fg : Nat → Int32) (P : Int32 → ((Nat → Int32)) → Prop) (J45 : Int32 → Int32 → Int32 → (Nat → Int32) → Prop) (J128 : Int32 → Int32 → Int32 → Int32 → Int32 → Int32 → (Nat → Int32) → Prop) (J192 : Int32 → Int32 → Int32 → Int32 → Int32 → Int32 → (Nat → Int32) → Prop) (x4 : Int32) (x5 : Int32) (x6 : Int32) (bf' : Nat → Int32) : Prop := (((fg 0) * (fg 1)) ≤ x6 → (x4 = 0 → P 0 (bf')) ∧ (¬ x4 = 0 → ((b2i (decide (bf' 0 = 0) && zso bcc bac bfc blc bf' 9)) = x5 → (x5 = 0 → P 1 (bf')) ∧ (¬ x5 = 0 → (zval bf' ∧ (zN bac ≤ 12 ∧ bc bac = nI (zN bac)) ∧ zx5 5 = 0) ∧ ((zcs bcc bac bfc blc bf' 0 5) = 1 → P 1 (bf')) ∧ (¬ (zcs bcc bac bfc blc bf' 0 5) = 1 → P 0 (bf')))) ∧ (¬ (b2i (decide (bf' 0 = 0) && zso bcc bac bfc blc bf' 9)) = x5 → P 0 (bf')))) ∧ (¬ ((fg 0) * (fg 1)) ≤ x6 → (x4 = 0 → (x4 = 0 → P 0 (bf')) ∧ (¬ x4 = 0 → ((b2i (decide (bf' 0 = 0) && zso bcc bac bfc blc bf' 9)) = x5 → (x5 = 0 → P 1 (bf')) ∧ (¬ x5 = 0 → (zval bf' ∧ (zN bac ≤ 12 ∧ bc bac = nI (zN bac)) ∧ zx5 5 = 0) ∧ ((zcs bcc bac bfc blc bf' 0 5) = 1 → P 1 (bf')) ∧ (¬ (zcs bcc bac bfc blc bf' 0 5) = 1 → P 0 (bf')))) ∧ (¬ (b2i (decide (bf' 0 = 0) && zso bcc bac bfc blc bf' 9)) = x5 → P 0 (bf')))) ∧ (¬ x4 = 0 → vp_in x6 12 ∧ (∃ N : Nat, N ≤ 12 ∧ fg 0 * fg 1 = nI N) ∧ ∀ y_15 : Int32, y_15 = lco fb (fb x6.toNatClampNeg) (mN (fg 0) (fg 1)) → vp_in x6 12 ∧ ((fb x6.toNatClampNeg) = 0 → vp_in x6 12 ∧ ((fb x6.toNatClampNeg) = 0 → (J128 x4 x5 x6 y_15 0 0 bf')) ∧ (¬ (fb x6.toNatClampNeg) = 0 → (∃ N : Nat, N ≤ 12 ∧ fg 0 * fg 1 = nI N) ∧ (∃ r c N k : Nat, gok (fg 0) (fg 1) r c N ∧ k < N ∧ x6 = nI k ∧ sm N (y_15 ||| (lco fb 0 (mN (fg 0) (fg 1))))) ∧ (sm 12 (gw (fg 0) (fg 1) (y_15 ||| (lco fb 0 (mN (fg 0) (fg 1)))) (zbit x6))) ∧ ∀ y_32 : Int32, y_32 = nI (cn (gw (fg 0) (fg 1) (y_15 ||| (lco fb 0 (mN (fg 0) (fg 1)))) (zbit x6)) 12) → (J128 x4 x5 x6 y_15 0 y_32 bf'))) ∧ (¬ (fb x6.toNatClampNeg) = 0 → (∃ r c N k : Nat, gok (fg 0) (fg 1) r c N ∧ k < N ∧ x6 = nI k ∧ sm N y_15) ∧ (sm 12 (gw (fg 0) (fg 1) y_15 (zbit x6))) ∧ ∀ y_20 : Int32, y_20 = nI (cn (gw (fg 0) (fg 1) y_15 (zbit x6)) 12) → vp_in x6 12 ∧ ((fb x6.toNatClampNeg) = 0 → (J128 x4 x5 x6 y_15 y_20 0 bf')) ∧ (¬ (fb x6.toNatClampNeg) = 0 → (∃ N : Nat, N ≤ 12 ∧ fg 0 * fg 1 = nI N) ∧ (∃ r c N k : Nat, gok (fg 0) (fg 1) r c N ∧ k < N ∧ x6 = nI k ∧ sm N (y_15 ||| (lco fb 0 (mN (fg 0) (fg 1))))) ∧ (sm 12 (gw (fg 0) (fg 1) (y_15 ||| (lco fb 0 (mN (fg 0) (fg 1)))) (zbit x6))) ∧ ∀ y_26 : Int32, y_26 = nI (cn (gw (fg 0) (fg 1) (y_15 ||| (lco fb 0 (mN (fg 0) (fg 1)))) (zbit x6)) 12) → (J128 x4 x5 x6 y_15 y_20 y_26 bf')))))
def vs_L_isBoard_128 (lgd : Int32) (ccc : Int32) (cac : Int32) (cfc : Int32) (clc : Int32) (cf : Nat → Int32) (bcc : Int32) (bac : Int32) (bfc : Int32) (blc : Int32) (bf : Nat → Int32) (lgf : Nat → Int32) (cnt : Int32) (call : Int32) (swf : Nat → Int32) (fnf : Nat → Int32) (fb : Nat → Int32) (fk : Nat → Int32) (fg : Nat → Int32) (P : Int32 → ((Nat → Int32)) → Prop) (J45 : Int32 → Int32 → Int32 → (Nat → Int32) → Prop) (J128 : Int32 → Int32 → Int32 → Int32 → Int32 → Int32 → (Nat → Int32) → Prop) (J192 : Int32 → Int32 → Int32 → Int32 → Int32 → Int32 → (Nat → Int32) → Prop) (x4 : Int32) (x5 : Int32) (x6 : Int32) (x7 : Int32) (x8 : Int32) (x9 : Int32) (bf' : Nat → Int32) : Prop := (zxc bac x6 = 0) ∧ vp_in x6 12 ∧ ((zni bf' x6 9) = (fb x6.toNatClampNeg) → (zxc bac x6 = 0) ∧ vp_in x6 12 ∧ ((fk x6.toNatClampNeg) = 1 → ((b2i (!decide (zni cf x6 9 = 0))) = 1 → (zxc bac x6 = 0) ∧ ((bc (zfo bcc bac bfc blc bf' x6)) = x8 → (zxc bac x6 = 0) ∧ ((bc (zro bcc bac bfc blc bf' x6)) = x9 → (J192 1 x5 x6 x7 x8 x9 bf')) ∧ (¬ (bc (zro bcc bac bfc blc bf' x6)) = x9 → (J192 0 x5 x6 x7 x8 x9 bf'))) ∧ (¬ (bc (zfo bcc bac bfc blc bf' x6)) = x8 → (J192 0 x5 x6 x7 x8 x9 bf'))) ∧ (¬ (b2i (!decide (zni cf x6 9 = 0))) = 1 → (J192 0 x5 x6 x7 x8 x9 bf'))) ∧ (¬ (fk x6.toNatClampNeg) = 1 → ((b2i (!decide (zni cf x6 9 = 0))) = 0 → (zxc bac x6 = 0) ∧ ((bc (zfo bcc bac bfc blc bf' x6)) = x8 → (zxc bac x6 = 0) ∧ ((bc (zro bcc bac bfc blc bf' x6)) = x9 → (J192 1 x5 x6 x7 x8 x9 bf')) ∧ (¬ (bc (zro bcc bac bfc blc bf' x6)) = x9 → (J192 0 x5 x6 x7 x8 x9 bf'))) ∧ (¬ (bc (zfo bcc bac bfc blc bf' x6)) = x8 → (J192 0 x5 x6 x7 x8 x9 bf'))) ∧ (¬ (b2i (!decide (zni cf x6 9 = 0))) = 0 → (J192 0 x5 x6 x7 x8 x9 bf')))) ∧ (¬ (zni bf' x6 9) = (fb x6.toNatClampNeg) → (J192 0 x5 x6 x7 x8 x9 bf'))
def vs_L_isBoard_192 (lgd : Int32) (ccc : Int32) (cac : Int32) (cfc : Int32) (clc : Int32) (cf : Nat → Int32) (bcc : Int32) (bac : Int32) (bfc : Int32) (blc : Int32) (bf : Nat → Int32) (lgf : Nat → Int32) (cnt : Int32) (call : Int32) (swf : Nat → Int32) (fnf : Nat → Int32) (fb : Nat → Int32) (fk : Nat → Int32) (fg : Nat → Int32) (P : Int32 → ((Nat → Int32)) → Prop) (J45 : Int32 → Int32 → Int32 → (Nat → Int32) → Prop) (J128 : Int32 → Int32 → Int32 → Int32 → Int32 → Int32 → (Nat → Int32) → Prop) (J192 : Int32 → Int32 → Int32 → Int32 → Int32 → Int32 → (Nat → Int32) → Prop) (x4 : Int32) (x5 : Int32) (x6 : Int32) (x7 : Int32) (x8 : Int32) (x9 : Int32) (bf' : Nat → Int32) : Prop := (x5 = 0 → ∀ y_50 : Int32, y_50 = x6 + 1 → (J45 x4 0 y_50 bf')) ∧ (¬ x5 = 0 → vp_in x6 12 ∧ (x8 = (fb x6.toNatClampNeg) → (x8 ≤ 0 → ∀ y_55 : Int32, y_55 = x6 + 1 → (J45 x4 0 y_55 bf')) ∧ (¬ x8 ≤ 0 → ∀ y_56 : Int32, y_56 = x6 + 1 → (J45 x4 1 y_56 bf'))) ∧ (¬ x8 = (fb x6.toNatClampNeg) → ∀ y_53 : Int32, y_53 = x6 + 1 → (J45 x4 0 y_53 bf')))
def ve_L_isBoard (lgd : Int32) (ccc : Int32) (cac : Int32) (cfc : Int32) (clc : Int32) (cf : Nat → Int32) (bcc : Int32) (bac : Int32) (bfc : Int32) (blc : Int32) (bf : Nat → Int32) (lgf : Nat → Int32) (cnt : Int32) (call : Int32) (swf : Nat → Int32) (fnf : Nat → Int32) (fb : Nat → Int32) (fk : Nat → Int32) (fg : Nat → Int32) (P : Int32 → ((Nat → Int32)) → Prop) (J45 : Int32 → Int32 → Int32 → (Nat → Int32) → Prop) (J128 : Int32 → Int32 → Int32 → Int32 → Int32 → Int32 → (Nat → Int32) → Prop) (J192 : Int32 → Int32 → Int32 → Int32 → Int32 → Int32 → (Nat → Int32) → Prop) : Prop := ((bc bac) = ((fg 0) * (fg 1)) → (lgd = (fg 2) → (PG fb fg) ∧ ((b2i (lso fb fg)) = 0 → (J45 0 1 0 bf)) ∧ (¬ (b2i (lso fb fg)) = 0 → (J45 1 1 0 bf))) ∧ (¬ lgd = (fg 2) → (J45 0 1 0 bf))) ∧ (¬ (bc bac) = ((fg 0) * (fg 1)) → (J45 0 1 0 bf))
def vs_L_canBe_11 (lgd : Int32) (ccc : Int32) (cac : Int32) (cfc : Int32) (clc : Int32) (cf : Nat → Int32) (bcc : Int32) (bac : Int32) (bfc : Int32) (blc : Int32) (bf : Nat → Int32) (lgf : Nat → Int32) (cnt : Int32) (call : Int32) (swf : Nat → Int32) (fnf : Nat → Int32) (fb : Nat → Int32) (fg : Nat → Int32) (p3 : Int32) (P : Int32 → ((Nat → Int32) × (Nat → Int32)) → Prop) (J11 : Int32 → Int32 → Int32 → (Nat → Int32) → (Nat → Int32) → Prop) (x4 : Int32) (x5 : Int32) (x6 : Int32) (bf' : Nat → Int32) (fb' : Nat → Int32) : Prop := (10 ≤ x6 → vp_in p3 12 ∧ (narrow .boolean (.int x4) = .int x4 ∧ P x4 (bf', upd fb' p3.toNatClampNeg x5))) ∧ (¬ 10 ≤ x6 → (x4 = 0 → vp_in p3 12 ∧ (narrow .boolean (.int x4) = .int x4 ∧ P x4 (bf', upd fb' p3.toNatClampNeg x5))) ∧ (¬ x4 = 0 → (x5 = 0 → vp_in p3 12 ∧ (zval bf' ∧ zx2 bac p3 x6 = 0) ∧ (x5 = 0 → (PG (upd fb' p3.toNatClampNeg x6) fg) ∧ ((b2i (lso (upd fb' p3.toNatClampNeg x6) fg)) = 0 → ((b2i (zct bcc bac bfc blc bf' p3 x6)) = 0 → ∀ y_30 : Int32, y_30 = x6 + 1 → (J11 1 x5 y_30 bf' (upd fb' p3.toNatClampNeg x6))) ∧ (¬ (b2i (zct bcc bac bfc blc bf' p3 x6)) = 0 → ∀ y_29 : Int32, y_29 = x6 + 1 → (J11 0 x5 y_29 bf' (upd fb' p3.toNatClampNeg x6)))) ∧ (¬ (b2i (lso (upd fb' p3.toNatClampNeg x6) fg)) = 0 → ((b2i (zct bcc bac bfc blc bf' p3 x6)) = 1 → ∀ y_33 : Int32, y_33 = x6 + 1 → (J11 1 x5 y_33 bf' (upd fb' p3.toNatClampNeg x6))) ∧ (¬ (b2i (zct bcc bac bfc blc bf' p3 x6)) = 1 → ∀ y_32 : Int32, y_32 = x6 + 1 → (J11 0 x5 y_32 bf' (upd fb' p3.toNatClampNeg x6))))) ∧ (¬ x5 = 0 → ((b2i (zct bcc bac bfc blc bf' p3 x6)) = 0 → ∀ y_25 : Int32, y_25 = x6 + 1 → (J11 1 x5 y_25 bf' (upd fb' p3.toNatClampNeg x6))) ∧ (¬ (b2i (zct bcc bac bfc blc bf' p3 x6)) = 0 → ∀ y_24 : Int32, y_24 = x6 + 1 → (J11 0 x5 y_24 bf' (upd fb' p3.toNatClampNeg x6))))) ∧ (¬ x5 = 0 → vp_in p3 12 ∧ (zval bf' ∧ zx2 bac p3 x6 = 0) ∧ (x5 = 0 → (PG (upd fb' p3.toNatClampNeg x5) fg) ∧ ((b2i (lso (upd fb' p3.toNatClampNeg x5) fg)) = 0 → ((b2i (zct bcc bac bfc blc bf' p3 x6)) = 0 → ∀ y_16 : Int32, y_16 = x6 + 1 → (J11 1 x5 y_16 bf' (upd fb' p3.toNatClampNeg x5))) ∧ (¬ (b2i (zct bcc bac bfc blc bf' p3 x6)) = 0 → ∀ y_15 : Int32, y_15 = x6 + 1 → (J11 0 x5 y_15 bf' (upd fb' p3.toNatClampNeg x5)))) ∧ (¬ (b2i (lso (upd fb' p3.toNatClampNeg x5) fg)) = 0 → ((b2i (zct bcc bac bfc blc bf' p3 x6)) = 1 → ∀ y_19 : Int32, y_19 = x6 + 1 → (J11 1 x5 y_19 bf' (upd fb' p3.toNatClampNeg x5))) ∧ (¬ (b2i (zct bcc bac bfc blc bf' p3 x6)) = 1 → ∀ y_18 : Int32, y_18 = x6 + 1 → (J11 0 x5 y_18 bf' (upd fb' p3.toNatClampNeg x5))))) ∧ (¬ x5 = 0 → ((b2i (zct bcc bac bfc blc bf' p3 x6)) = 0 → ∀ y_11 : Int32, y_11 = x6 + 1 → (J11 1 x5 y_11 bf' (upd fb' p3.toNatClampNeg x5))) ∧ (¬ (b2i (zct bcc bac bfc blc bf' p3 x6)) = 0 → ∀ y_10 : Int32, y_10 = x6 + 1 → (J11 0 x5 y_10 bf' (upd fb' p3.toNatClampNeg x5)))))))
def ve_L_canBe (lgd : Int32) (ccc : Int32) (cac : Int32) (cfc : Int32) (clc : Int32) (cf : Nat → Int32) (bcc : Int32) (bac : Int32) (bfc : Int32) (blc : Int32) (bf : Nat → Int32) (lgf : Nat → Int32) (cnt : Int32) (call : Int32) (swf : Nat → Int32) (fnf : Nat → Int32) (fb : Nat → Int32) (fg : Nat → Int32) (p3 : Int32) (P : Int32 → ((Nat → Int32) × (Nat → Int32)) → Prop) (J11 : Int32 → Int32 → Int32 → (Nat → Int32) → (Nat → Int32) → Prop) : Prop := vp_in p3 12 ∧ ∀ y_35 : Int32, y_35 = fb p3.toNatClampNeg → (J11 1 y_35 1 bf fb)
def vs_L_isHidden_29 (lgd : Int32) (ccc : Int32) (cac : Int32) (cfc : Int32) (clc : Int32) (cf : Nat → Int32) (bcc : Int32) (bac : Int32) (bfc : Int32) (blc : Int32) (bf : Nat → Int32) (lgf : Nat → Int32) (cnt : Int32) (call : Int32) (swf : Nat → Int32) (fnf : Nat → Int32) (fb : Nat → Int32) (fg : Nat → Int32) (p3 : Int32) (P : Int32 → Unit → Prop) (J29 : Int32 → Int32 → Int32 → Prop) (J83 : Int32 → Int32 → Int32 → Prop) (x4 : Int32) (x5 : Int32) (x6 : Int32) : Prop := (((fg 0) * (fg 1)) ≤ x6 → (x4 = 0 → (x5 = 0 → (zxc bac p3 = 0) ∧ ((b2i (zhas (zhi bcc bac bfc blc bf) p3)) = 0 → P 0 ()) ∧ (¬ (b2i (zhas (zhi bcc bac bfc blc bf) p3)) = 0 → P 1 ())) ∧ (¬ x5 = 0 → P 1 ())) ∧ (¬ x4 = 0 → (zxc bac p3 = 0) ∧ ((b2i (zhas (zhi bcc bac bfc blc bf) p3)) = 0 → P 1 ()) ∧ (¬ (b2i (zhas (zhi bcc bac bfc blc bf) p3)) = 0 → P 0 ()))) ∧ (¬ ((fg 0) * (fg 1)) ≤ x6 → (¬ fg 1 = 0) ∧ ((b2i (lnx (fg 1) x6 p3)) = 0 → ∀ y_10 : Int32, y_10 = x6 + 1 → (J29 x4 x5 y_10)) ∧ (¬ (b2i (lnx (fg 1) x6 p3)) = 0 → (x4 = 0 → vp_in x6 12 ∧ ((fb x6.toNatClampNeg) ≤ 0 → (J83 0 x5 x6)) ∧ (¬ (fb x6.toNatClampNeg) ≤ 0 → (zxc bac x6 = 0) ∧ vp_in x6 12 ∧ ((fb x6.toNatClampNeg) ≤ (bc (zfo bcc bac bfc blc bf x6)) → (J83 0 x5 x6)) ∧ (¬ (fb x6.toNatClampNeg) ≤ (bc (zfo bcc bac bfc blc bf x6)) → (J83 1 x5 x6)))) ∧ (¬ x4 = 0 → (J83 1 x5 x6))))
def vs_L_isHidden_83 (lgd : Int32) (ccc : Int32) (cac : Int32) (cfc : Int32) (clc : Int32) (cf : Nat → Int32) (bcc : Int32) (bac : Int32) (bfc : Int32) (blc : Int32) (bf : Nat → Int32) (lgf : Nat → Int32) (cnt : Int32) (call : Int32) (swf : Nat → Int32) (fnf : Nat → Int32) (fb : Nat → Int32) (fg : Nat → Int32) (p3 : Int32) (P : Int32 → Unit → Prop) (J29 : Int32 → Int32 → Int32 → Prop) (J83 : Int32 → Int32 → Int32 → Prop) (x4 : Int32) (x5 : Int32) (x6 : Int32) : Prop := (x5 = 0 → vp_in x6 12 ∧ ((fb x6.toNatClampNeg) = 0 → ∀ y_22 : Int32, y_22 = x6 + 1 → (J29 x4 1 y_22)) ∧ (¬ (fb x6.toNatClampNeg) = 0 → ∀ y_21 : Int32, y_21 = x6 + 1 → (J29 x4 0 y_21))) ∧ (¬ x5 = 0 → ∀ y_18 : Int32, y_18 = x6 + 1 → (J29 x4 1 y_18))
def ve_L_isHidden (lgd : Int32) (ccc : Int32) (cac : Int32) (cfc : Int32) (clc : Int32) (cf : Nat → Int32) (bcc : Int32) (bac : Int32) (bfc : Int32) (blc : Int32) (bf : Nat → Int32) (lgf : Nat → Int32) (cnt : Int32) (call : Int32) (swf : Nat → Int32) (fnf : Nat → Int32) (fb : Nat → Int32) (fg : Nat → Int32) (p3 : Int32) (P : Int32 → Unit → Prop) (J29 : Int32 → Int32 → Int32 → Prop) (J83 : Int32 → Int32 → Int32 → Prop) : Prop := vp_in p3 12 ∧ ((fb p3.toNatClampNeg) ≤ 0 → (J29 0 0 0)) ∧ (¬ (fb p3.toNatClampNeg) ≤ 0 → (zxc bac p3 = 0) ∧ ((b2i (zhas (zhi bcc bac bfc blc bf) p3)) = 0 → P 1 ()) ∧ (¬ (b2i (zhas (zhi bcc bac bfc blc bf) p3)) = 0 → P 0 ()))
def vs_L_areShapes_33 (lgd : Int32) (ccc : Int32) (cac : Int32) (cfc : Int32) (clc : Int32) (cf : Nat → Int32) (bcc : Int32) (bac : Int32) (bfc : Int32) (blc : Int32) (bf : Nat → Int32) (lgf : Nat → Int32) (cnt : Int32) (call : Int32) (swf : Nat → Int32) (fnf : Nat → Int32) (fb : Nat → Int32) (fg : Nat → Int32) (p3 : Int32) (P : Int32 → (Int32 × Int32 × (Nat → Int32)) → Prop) (J33 : Int32 → Int32 → Int32 → Int32 → Int32 → (Nat → Int32) → Prop) (J58 : Int32 → Int32 → Int32 → Int32 → Int32 → Int32 → (Nat → Int32) → Prop) (J61 : Int32 → Int32 → Int32 → Int32 → Int32 → Int32 → Int32 → (Nat → Int32) → Prop) (J152 : Int32 → Int32 → Int32 → Int32 → Int32 → Int32 → Int32 → Int32 → (Nat → Int32) → Prop) (x4 : Int32) (x5 : Int32) (x6 : Int32) (cnt' : Int32) (call' : Int32) (swf' : Nat → Int32) : Prop := vp_in p3 12 ∧ ((fb p3.toNatClampNeg) = 0 → (J58 x4 x5 x6 0 cnt' call' swf')) ∧ (¬ (fb p3.toNatClampNeg) = 0 → vp_in p3 12 ∧ (∃ N : Nat, N ≤ 12 ∧ fg 0 * fg 1 = nI N) ∧ (∃ r c N k : Nat, gok (fg 0) (fg 1) r c N ∧ k < N ∧ p3 = nI k ∧ sm N (lco fb (fb p3.toNatClampNeg) (mN (fg 0) (fg 1)))) ∧ ∀ y_47 : Int32, y_47 = gw (fg 0) (fg 1) (lco fb (fb p3.toNatClampNeg) (mN (fg 0) (fg 1))) (zbit p3) → (J58 x4 x5 x6 y_47 cnt' call' swf'))
def vs_L_areShapes_58 (lgd : Int32) (ccc : Int32) (cac : Int32) (cfc : Int32) (clc : Int32) (cf : Nat → Int32) (bcc : Int32) (bac : Int32) (bfc : Int32) (blc : Int32) (bf : Nat → Int32) (lgf : Nat → Int32) (cnt : Int32) (call : Int32) (swf : Nat → Int32) (fnf : Nat → Int32) (fb : Nat → Int32) (fg : Nat → Int32) (p3 : Int32) (P : Int32 → (Int32 × Int32 × (Nat → Int32)) → Prop) (J33 : Int32 → Int32 → Int32 → Int32 → Int32 → (Nat → Int32) → Prop) (J58 : Int32 → Int32 → Int32 → Int32 → Int32 → Int32 → (Nat → Int32) → Prop) (J61 : Int32 → Int32 → Int32 → Int32 → Int32 → Int32 → Int32 → (Nat → Int32) → Prop) (J152 : Int32 → Int32 → Int32 → Int32 → Int32 → Int32 → Int32 → Int32 → (Nat → Int32) → Prop) (x4 : Int32) (x5 : Int32) (x6 : Int32) (x7 : Int32) (cnt' : Int32) (call' : Int32) (swf' : Nat → Int32) : Prop := (J61 x4 x5 x6 x7 0 cnt' call' swf')
def vs_L_areShapes_61 (lgd : Int32) (ccc : Int32) (cac : Int32) (cfc : Int32) (clc : Int32) (cf : Nat → Int32) (bcc : Int32) (bac : Int32) (bfc : Int32) (blc : Int32) (bf : Nat → Int32) (lgf : Nat → Int32) (cnt : Int32) (call : Int32) (swf : Nat → Int32) (fnf : Nat → Int32) (fb : Nat → Int32) (fg : Nat → Int32) (p3 : Int32) (P : Int32 → (Int32 × Int32 × (Nat → Int32)) → Prop) (J33 : Int32 → Int32 → Int32 → Int32 → Int32 → (Nat → Int32) → Prop) (J58 : Int32 → Int32 → Int32 → Int32 → Int32 → Int32 → (Nat → Int32) → Prop) (J61 : Int32 → Int32 → Int32 → Int32 → Int32 → Int32 → Int32 → (Nat → Int32) → Prop) (J152 : Int32 → Int32 → Int32 → Int32 → Int32 → Int32 → Int32 → Int32 → (Nat → Int32) → Prop) (x4 : Int32) (x5 : Int32) (x6 : Int32) (x7 : Int32) (x8 : Int32) (cnt' : Int32) (call' : Int32) (swf' : Nat → Int32) : Prop := (((fg 0) * (fg 1)) ≤ x8 → (x6 = 0 → P 0 (cnt', call', swf')) ∧ (¬ x6 = 0 → vp_in p3 12 ∧ (x5 = (x4 * (fb p3.toNatClampNeg)) → (sm 12 x7) ∧ vp_in p3 12 ∧ ((nI (cn x7 12)) < (fb p3.toNatClampNeg) → P 1 (cnt', call', swf')) ∧ (¬ (nI (cn x7 12)) < (fb p3.toNatClampNeg) → vp_in p3 12 ∧ ((fb p3.toNatClampNeg) = 0 → P 1 (cnt', call', swf')) ∧ (¬ (fb p3.toNatClampNeg) = 0 → (x4 = 1 → P 1 (cnt', call', swf')) ∧ (¬ x4 = 1 → P 0 (cnt', call', swf'))))) ∧ (¬ x5 = (x4 * (fb p3.toNatClampNeg)) → P 0 (cnt', call', swf')))) ∧ (¬ ((fg 0) * (fg 1)) ≤ x8 → (x6 = 0 → (x6 = 0 → P 0 (cnt', call', swf')) ∧ (¬ x6 = 0 → vp_in p3 12 ∧ (x5 = (x4 * (fb p3.toNatClampNeg)) → (sm 12 x7) ∧ vp_in p3 12 ∧ ((nI (cn x7 12)) < (fb p3.toNatClampNeg) → P 1 (cnt', call', swf')) ∧ (¬ (nI (cn x7 12)) < (fb p3.toNatClampNeg) → vp_in p3 12 ∧ ((fb p3.toNatClampNeg) = 0 → P 1 (cnt', call', swf')) ∧ (¬ (fb p3.toNatClampNeg) = 0 → (x4 = 1 → P 1 (cnt', call', swf')) ∧ (¬ x4 = 1 → P 0 (cnt', call', swf'))))) ∧ (¬ x5 = (x4 * (fb p3.toNatClampNeg)) → P 0 (cnt', call', swf')))) ∧ (¬ x6 = 0 → (zxc2 bac p3 x8 = 0) ∧ ∀ (cnt_22 : Int32) (call_22 : Int32) (swf_22 : Nat → Int32), ∀ y_23 : Int32, y_23 = zsw (zli bcc bac bfc blc bf p3 swf').2.2 x8 → ∀ y_24 : Int32, y_24 = x5 + y_23 → (y_23 < 0 → (J152 x4 y_24 0 x7 x8 y_23 cnt_22 call_22 swf_22)) ∧ (¬ y_23 < 0 → (x4 < y_23 → (J152 x4 y_24 0 x7 x8 y_23 cnt_22 call_22 swf_22)) ∧ (¬ x4 < y_23 → (((x7 >>> (x8 &&& 31)) &&& 1) = 0 → vp_in x8 12 ∧ ((fb x8.toNatClampNeg) = 0 → (J152 x4 y_24 1 x7 x8 y_23 cnt_22 call_22 swf_22)) ∧ (¬ (fb x8.toNatClampNeg) = 0 → vp_in x8 12 ∧ vp_in p3 12 ∧ ((fb x8.toNatClampNeg) = (fb p3.toNatClampNeg) → (J152 x4 y_24 1 x7 x8 y_23 cnt_22 call_22 swf_22)) ∧ (¬ (fb x8.toNatClampNeg) = (fb p3.toNatClampNeg) → (y_23 = 0 → (J152 x4 y_24 1 x7 x8 y_23 cnt_22 call_22 swf_22)) ∧ (¬ y_23 = 0 → (J152 x4 y_24 0 x7 x8 y_23 cnt_22 call_22 swf_22))))) ∧ (¬ ((x7 >>> (x8 &&& 31)) &&& 1) = 0 → (y_23 = x4 → vp_in x8 12 ∧ ((fb x8.toNatClampNeg) = 0 → (J152 x4 y_24 1 x7 x8 y_23 cnt_22 call_22 swf_22)) ∧ (¬ (fb x8.toNatClampNeg) = 0 → vp_in x8 12 ∧ vp_in p3 12 ∧ ((fb x8.toNatClampNeg) = (fb p3.toNatClampNeg) → (J152 x4 y_24 1 x7 x8 y_23 cnt_22 call_22 swf_22)) ∧ (¬ (fb x8.toNatClampNeg) = (fb p3.toNatClampNeg) → (y_23 = 0 → (J152 x4 y_24 1 x7 x8 y_23 cnt_22 call_22 swf_22)) ∧ (¬ y_23 = 0 → (J152 x4 y_24 0 x7 x8 y_23 cnt_22 call_22 swf_22))))) ∧ (¬ y_23 = x4 → (J152 x4 y_24 0 x7 x8 y_23 cnt_22 call_22 swf_22)))))))
def vs_L_areShapes_152 (lgd : Int32) (ccc : Int32) (cac : Int32) (cfc : Int32) (clc : Int32) (cf : Nat → Int32) (bcc : Int32) (bac : Int32) (bfc : Int32) (blc : Int32) (bf : Nat → Int32) (lgf : Nat → Int32) (cnt : Int32) (call : Int32) (swf : Nat → Int32) (fnf : Nat → Int32) (fb : Nat → Int32) (fg : Nat → Int32) (p3 : Int32) (P : Int32 → (Int32 × Int32 × (Nat → Int32)) → Prop) (J33 : Int32 → Int32 → Int32 → Int32 → Int32 → (Nat → Int32) → Prop) (J58 : Int32 → Int32 → Int32 → Int32 → Int32 → Int32 → (Nat → Int32) → Prop) (J61 : Int32 → Int32 → Int32 → Int32 → Int32 → Int32 → Int32 → (Nat → Int32) → Prop) (J152 : Int32 → Int32 → Int32 → Int32 → Int32 → Int32 → Int32 → Int32 → (Nat → Int32) → Prop) (x4 : Int32) (x5 : Int32) (x6 : Int32) (x7 : Int32) (x8 : Int32) (x9 : Int32) (cnt' : Int32) (call' : Int32) (swf' : Nat → Int32) : Prop := ∀ y_41 : Int32, y_41 = x8 + 1 → (J61 x4 x5 x6 x7 y_41 cnt' call' swf')
def ve_L_areShapes (lgd : Int32) (ccc : Int32) (cac : Int32) (cfc : Int32) (clc : Int32) (cf : Nat → Int32) (bcc : Int32) (bac : Int32) (bfc : Int32) (blc : Int32) (bf : Nat → Int32) (lgf : Nat → Int32) (cnt : Int32) (call : Int32) (swf : Nat → Int32) (fnf : Nat → Int32) (fb : Nat → Int32) (fg : Nat → Int32) (p3 : Int32) (P : Int32 → (Int32 × Int32 × (Nat → Int32)) → Prop) (J33 : Int32 → Int32 → Int32 → Int32 → Int32 → (Nat → Int32) → Prop) (J58 : Int32 → Int32 → Int32 → Int32 → Int32 → Int32 → (Nat → Int32) → Prop) (J61 : Int32 → Int32 → Int32 → Int32 → Int32 → Int32 → Int32 → (Nat → Int32) → Prop) (J152 : Int32 → Int32 → Int32 → Int32 → Int32 → Int32 → Int32 → Int32 → (Nat → Int32) → Prop) : Prop := (zxc bac p3 = 0) ∧ ∀ (cnt_49 : Int32) (call_49 : Int32) (swf_49 : Nat → Int32), ∀ y_50 : Int32, y_50 = (zli bcc bac bfc blc bf p3 swf).1 → (y_50 < 0 → (J33 y_50 0 0 cnt_49 call_49 swf_49)) ∧ (¬ y_50 < 0 → vp_in p3 12 ∧ (0 < (fb p3.toNatClampNeg) → (J33 y_50 0 1 cnt_49 call_49 swf_49)) ∧ (¬ 0 < (fb p3.toNatClampNeg) → (y_50 = 0 → (J33 y_50 0 1 cnt_49 call_49 swf_49)) ∧ (¬ y_50 = 0 → (J33 y_50 0 0 cnt_49 call_49 swf_49))))
theorem zx2_k {rw co : Int32} {r c N : Nat} (g : gok rw co r c N) {k m : Nat} (hk : k < N) (h1 : 1 ≤ m) (hm : m < 10) : zx2 (zac rw co) (nI k) (nI m) = 0 := by
  unfold zx2
  rw [if_pos (zxc_k g hk)]
  have : ∀ m, m < 10 → 1 ≤ m → zxn (nI m) = 0 := by decide +kernel
  exact this m hm h1
theorem zxc2_k {rw co : Int32} {r c N : Nat} (g : gok rw co r c N) {k m : Nat} (hk : k < N) (hm : m < N) : zxc2 (zac rw co) (nI k) (nI m) = 0 := by
  unfold zxc2
  rw [if_pos (zxc_k g hk)]
  exact zxc_k g hm
theorem zN_ok {rw co : Int32} {r c N : Nat} (g : gok rw co r c N) : zN (zac rw co) ≤ 12 ∧ bc (zac rw co) = nI (zN (zac rw co)) := by
  rw [gzN g]
  exact ⟨(gN g).2, gbc g⟩
theorem b2i_01 (b : Bool) : (if b = true then (1 : Int32) else 0) = b2i b := by cases b <;> rfl
theorem b2i_1 {b : Bool} : b2i b = 1 ↔ b = true := by cases b <;> decide
def I_L_isBoard_45 (lgd : Int32) (ccc : Int32) (cac : Int32) (cfc : Int32) (clc : Int32) (cf : Nat → Int32) (bcc : Int32) (bac : Int32) (bfc : Int32) (blc : Int32) (bf : Nat → Int32) (lgf : Nat → Int32) (cnt : Int32) (call : Int32) (swf : Nat → Int32) (fnf : Nat → Int32) (fb : Nat → Int32) (fk : Nat → Int32) (fg : Nat → Int32) : Int32 → Int32 → Int32 → (Nat → Int32) → Prop := fun x4 x5 x6 bf' => bf = bf' ∧ x4 = 1 ∧ ∃ (k : Nat) (b : Bool), k ≤ mN (fg 0) (fg 1) ∧ x6 = nI k ∧ x5 = b2i b ∧ mSL (fg 0) (fg 1) fb (mN (fg 0) (fg 1)) (mN (fg 0) (fg 1)) = (b && mSL (fg 0) (fg 1) fb (mN (fg 0) (fg 1)) (mN (fg 0) (fg 1) - k))
def mu_L_isBoard_45 (lgd : Int32) (ccc : Int32) (cac : Int32) (cfc : Int32) (clc : Int32) (cf : Nat → Int32) (bcc : Int32) (bac : Int32) (bfc : Int32) (blc : Int32) (bf : Nat → Int32) (lgf : Nat → Int32) (cnt : Int32) (call : Int32) (swf : Nat → Int32) (fnf : Nat → Int32) (fb : Nat → Int32) (fk : Nat → Int32) (fg : Nat → Int32) : Int32 → Int32 → Int32 → (Nat → Int32) → Nat := fun x4 x5 x6 bf' => (12 - x6.toNatClampNeg) * 3 + 2
def I_L_isBoard_128 (lgd : Int32) (ccc : Int32) (cac : Int32) (cfc : Int32) (clc : Int32) (cf : Nat → Int32) (bcc : Int32) (bac : Int32) (bfc : Int32) (blc : Int32) (bf : Nat → Int32) (lgf : Nat → Int32) (cnt : Int32) (call : Int32) (swf : Nat → Int32) (fnf : Nat → Int32) (fb : Nat → Int32) (fk : Nat → Int32) (fg : Nat → Int32) : Int32 → Int32 → Int32 → Int32 → Int32 → Int32 → (Nat → Int32) → Prop := fun x4 x5 x6 x7 x8 x9 bf' => bf = bf' ∧ x4 = 1 ∧ ∃ (k : Nat) (b : Bool), k < mN (fg 0) (fg 1) ∧ x6 = nI k ∧ x5 = b2i b ∧ x8 = szv (fg 0) (fg 1) (mN (fg 0) (fg 1)) fb k ∧ x9 = rmv (fg 0) (fg 1) (mN (fg 0) (fg 1)) fb k ∧ mSL (fg 0) (fg 1) fb (mN (fg 0) (fg 1)) (mN (fg 0) (fg 1)) = (b && mSL (fg 0) (fg 1) fb (mN (fg 0) (fg 1)) (mN (fg 0) (fg 1) - k))
def mu_L_isBoard_128 (lgd : Int32) (ccc : Int32) (cac : Int32) (cfc : Int32) (clc : Int32) (cf : Nat → Int32) (bcc : Int32) (bac : Int32) (bfc : Int32) (blc : Int32) (bf : Nat → Int32) (lgf : Nat → Int32) (cnt : Int32) (call : Int32) (swf : Nat → Int32) (fnf : Nat → Int32) (fb : Nat → Int32) (fk : Nat → Int32) (fg : Nat → Int32) : Int32 → Int32 → Int32 → Int32 → Int32 → Int32 → (Nat → Int32) → Nat := fun x4 x5 x6 x7 x8 x9 bf' => (12 - x6.toNatClampNeg) * 3 + 1
def I_L_isBoard_192 (lgd : Int32) (ccc : Int32) (cac : Int32) (cfc : Int32) (clc : Int32) (cf : Nat → Int32) (bcc : Int32) (bac : Int32) (bfc : Int32) (blc : Int32) (bf : Nat → Int32) (lgf : Nat → Int32) (cnt : Int32) (call : Int32) (swf : Nat → Int32) (fnf : Nat → Int32) (fb : Nat → Int32) (fk : Nat → Int32) (fg : Nat → Int32) : Int32 → Int32 → Int32 → Int32 → Int32 → Int32 → (Nat → Int32) → Prop := fun x4 x5 x6 x7 x8 x9 bf' => bf = bf' ∧ x4 = 1 ∧ ∃ (k : Nat) (b : Bool), k < mN (fg 0) (fg 1) ∧ x6 = nI k ∧ x5 = b2i b ∧ x8 = szv (fg 0) (fg 1) (mN (fg 0) (fg 1)) fb k ∧ mSL (fg 0) (fg 1) fb (mN (fg 0) (fg 1)) (mN (fg 0) (fg 1)) = (b && mSL (fg 0) (fg 1) fb (mN (fg 0) (fg 1)) (mN (fg 0) (fg 1) - k))
def mu_L_isBoard_192 (lgd : Int32) (ccc : Int32) (cac : Int32) (cfc : Int32) (clc : Int32) (cf : Nat → Int32) (bcc : Int32) (bac : Int32) (bfc : Int32) (blc : Int32) (bf : Nat → Int32) (lgf : Nat → Int32) (cnt : Int32) (call : Int32) (swf : Nat → Int32) (fnf : Nat → Int32) (fb : Nat → Int32) (fk : Nat → Int32) (fg : Nat → Int32) : Int32 → Int32 → Int32 → Int32 → Int32 → Int32 → (Nat → Int32) → Nat := fun x4 x5 x6 x7 x8 x9 bf' => (12 - x6.toNatClampNeg) * 3
theorem pl_L_isBoard_45 (lgd : Int32) (ccc : Int32) (cac : Int32) (cfc : Int32) (clc : Int32) (cf : Nat → Int32) (bcc : Int32) (bac : Int32) (bfc : Int32) (blc : Int32) (bf : Nat → Int32) (lgf : Nat → Int32) (cnt : Int32) (call : Int32) (swf : Nat → Int32) (fnf : Nat → Int32) (fb : Nat → Int32) (fk : Nat → Int32) (fg : Nat → Int32) (hpre : PK ccc cac cfc clc cf bcc bac bfc blc bf fb fk fg ∧ lgd = fg 2) : ∀ (x4 : Int32) (x5 : Int32) (x6 : Int32) (bf' : Nat → Int32), I_L_isBoard_45 lgd ccc cac cfc clc cf bcc bac bfc blc bf lgf cnt call swf fnf fb fk fg x4 x5 x6 bf' → vs_L_isBoard_45 lgd ccc cac cfc clc cf bcc bac bfc blc bf lgf cnt call swf fnf fb fk fg (fun (r : Int32) (u : (Nat → Int32)) => r = 1 ∧ u = (bf)) (fun (x49 : Int32) (x59 : Int32) (x69 : Int32) (bf9 : Nat → Int32) => I_L_isBoard_45 lgd ccc cac cfc clc cf bcc bac bfc blc bf lgf cnt call swf fnf fb fk fg x49 x59 x69 bf9 ∧ mu_L_isBoard_45 lgd ccc cac cfc clc cf bcc bac bfc blc bf lgf cnt call swf fnf fb fk fg x49 x59 x69 bf9 < mu_L_isBoard_45 lgd ccc cac cfc clc cf bcc bac bfc blc bf lgf cnt call swf fnf fb fk fg x4 x5 x6 bf') (fun (x49 : Int32) (x59 : Int32) (x69 : Int32) (x79 : Int32) (x89 : Int32) (x99 : Int32) (bf9 : Nat → Int32) => I_L_isBoard_128 lgd ccc cac cfc clc cf bcc bac bfc blc bf lgf cnt call swf fnf fb fk fg x49 x59 x69 x79 x89 x99 bf9 ∧ mu_L_isBoard_128 lgd ccc cac cfc clc cf bcc bac bfc blc bf lgf cnt call swf fnf fb fk fg x49 x59 x69 x79 x89 x99 bf9 < mu_L_isBoard_45 lgd ccc cac cfc clc cf bcc bac bfc blc bf lgf cnt call swf fnf fb fk fg x4 x5 x6 bf') (fun (x49 : Int32) (x59 : Int32) (x69 : Int32) (x79 : Int32) (x89 : Int32) (x99 : Int32) (bf9 : Nat → Int32) => I_L_isBoard_192 lgd ccc cac cfc clc cf bcc bac bfc blc bf lgf cnt call swf fnf fb fk fg x49 x59 x69 x79 x89 x99 bf9 ∧ mu_L_isBoard_192 lgd ccc cac cfc clc cf bcc bac bfc blc bf lgf cnt call swf fnf fb fk fg x49 x59 x69 x79 x89 x99 bf9 < mu_L_isBoard_45 lgd ccc cac cfc clc cf bcc bac bfc blc bf lgf cnt call swf fnf fb fk fg x4 x5 x6 bf') x4 x5 x6 bf' := by
  rintro x4 x5 x6 bf' ⟨rfl, rfl, k, b, hk, rfl, rfl, hm⟩
  obtain ⟨⟨r, c, N, cl, ⟨g, hF, hC, hb, hs, hsc, hcl⟩, ⟨⟨rfl, rfl, rfl, rfl⟩, rfl, rfl, rfl, rfl⟩, hkk⟩, hl⟩ := hpre
  have hN := (gN g).2
  have hbN := bv_le hN hb
  have em := gmN g
  rw [em] at hk hm
  unfold vs_L_isBoard_45
  rw [gmul g, em]
  refine ⟨fun c0 => ⟨fun z => absurd z (by decide), fun _ => ?_⟩, fun c0 => ⟨fun z => absurd z (by decide), fun _ => ?_⟩⟩
  · have c0 := k_le (by omega) (by omega) c0
    obtain rfl : k = N := by omega
    have hm' : mSL (fg 0) (fg 1) fb k k = b := by rw [hm, Nat.sub_self]; exact Bool.and_true b
    rw [zsolved g hF hbN hs, hm']
    refine ⟨fun _ => ⟨fun _ => ⟨rfl, rfl⟩, fun hb1 => ⟨⟨zval_FB hN hF, zN_ok g, by decide⟩, fun _ => ⟨rfl, rfl⟩, fun hc => ?_⟩⟩, fun hne => absurd rfl hne⟩
    rw [b2i_ne0] at hb1
    exact absurd (zcs_full g hF hbN hs (mSL_full g hF hbN hs (hm'.trans hb1))) hc
  · have hkN := k_nle (by omega) (by omega) c0
    rw [nI_clamp (by omega)]
    have hvp : vp_in (nI k) 12 := vp_in_nI (by omega) (by decide)
    have hJ : ∀ y x8 x9, x8 = szv (fg 0) (fg 1) N fb k → x9 = rmv (fg 0) (fg 1) N fb k → (I_L_isBoard_128 lgd (fg 1) (zac (fg 0) (fg 1)) (zfc (fg 1) r) (zlc (fg 1) (zfc (fg 1) r)) cf (fg 1) (zac (fg 0) (fg 1)) (zfc (fg 1) r) (zlc (fg 1) (zfc (fg 1) r)) bf lgf cnt call swf fnf fb fk fg 1 (b2i b) (nI k) y x8 x9 bf ∧ mu_L_isBoard_128 lgd (fg 1) (zac (fg 0) (fg 1)) (zfc (fg 1) r) (zlc (fg 1) (zfc (fg 1) r)) cf (fg 1) (zac (fg 0) (fg 1)) (zfc (fg 1) r) (zlc (fg 1) (zfc (fg 1) r)) bf lgf cnt call swf fnf fb fk fg 1 (b2i b) (nI k) y x8 x9 bf < mu_L_isBoard_45 lgd (fg 1) (zac (fg 0) (fg 1)) (zfc (fg 1) r) (zlc (fg 1) (zfc (fg 1) r)) cf (fg 1) (zac (fg 0) (fg 1)) (zfc (fg 1) r) (zlc (fg 1) (zfc (fg 1) r)) bf lgf cnt call swf fnf fb fk fg 1 (b2i b) (nI k) bf) := by
      intro y x8 x9 e8 e9
      refine ⟨⟨rfl, rfl, k, b, by rw [em]; exact hkN, rfl, rfl, by rw [em]; exact e8, by rw [em]; exact e9, by rw [em]; exact hm⟩, ?_⟩
      show (12 - (nI k).toNatClampNeg) * 3 + 1 < (12 - (nI k).toNatClampNeg) * 3 + 2
      omega
    have hs1 : sm N (lco fb (fb k) N) := by
      obtain ⟨v, hv, e⟩ := hbN k hkN
      rw [e]; exact lco_sm hN
    have hs0 : sm N (lco fb 0 N) := lco_sm hN (v := 0)
    have s1 := one_sm g hkN
    refine ⟨hvp, ⟨N, hN, rfl⟩, ?_⟩
    rintro y rfl
    refine ⟨hvp, fun e => ⟨hvp, fun _ => hJ _ _ _ (szv_0 e).symm (rmv_0 e).symm, fun e2 => absurd e e2⟩, fun e => ⟨⟨r, c, N, k, g, hkN, rfl, hs1⟩, sm_12 hN (gw_sm g s1), ?_⟩⟩
    rintro y rfl
    refine ⟨hvp, fun e2 => absurd e2 e, fun _ => ⟨⟨N, hN, rfl⟩, ⟨r, c, N, k, g, hkN, rfl, sm_or hs1 hs0⟩, sm_12 hN (gw_sm g s1), ?_⟩⟩
    rintro y rfl
    exact hJ _ _ _ (by unfold szv; rw [if_neg e]) (by unfold rmv; rw [if_neg e])
theorem pl_L_isBoard_128 (lgd : Int32) (ccc : Int32) (cac : Int32) (cfc : Int32) (clc : Int32) (cf : Nat → Int32) (bcc : Int32) (bac : Int32) (bfc : Int32) (blc : Int32) (bf : Nat → Int32) (lgf : Nat → Int32) (cnt : Int32) (call : Int32) (swf : Nat → Int32) (fnf : Nat → Int32) (fb : Nat → Int32) (fk : Nat → Int32) (fg : Nat → Int32) (hpre : PK ccc cac cfc clc cf bcc bac bfc blc bf fb fk fg ∧ lgd = fg 2) : ∀ (x4 : Int32) (x5 : Int32) (x6 : Int32) (x7 : Int32) (x8 : Int32) (x9 : Int32) (bf' : Nat → Int32), I_L_isBoard_128 lgd ccc cac cfc clc cf bcc bac bfc blc bf lgf cnt call swf fnf fb fk fg x4 x5 x6 x7 x8 x9 bf' → vs_L_isBoard_128 lgd ccc cac cfc clc cf bcc bac bfc blc bf lgf cnt call swf fnf fb fk fg (fun (r : Int32) (u : (Nat → Int32)) => r = 1 ∧ u = (bf)) (fun (x49 : Int32) (x59 : Int32) (x69 : Int32) (bf9 : Nat → Int32) => I_L_isBoard_45 lgd ccc cac cfc clc cf bcc bac bfc blc bf lgf cnt call swf fnf fb fk fg x49 x59 x69 bf9 ∧ mu_L_isBoard_45 lgd ccc cac cfc clc cf bcc bac bfc blc bf lgf cnt call swf fnf fb fk fg x49 x59 x69 bf9 < mu_L_isBoard_128 lgd ccc cac cfc clc cf bcc bac bfc blc bf lgf cnt call swf fnf fb fk fg x4 x5 x6 x7 x8 x9 bf') (fun (x49 : Int32) (x59 : Int32) (x69 : Int32) (x79 : Int32) (x89 : Int32) (x99 : Int32) (bf9 : Nat → Int32) => I_L_isBoard_128 lgd ccc cac cfc clc cf bcc bac bfc blc bf lgf cnt call swf fnf fb fk fg x49 x59 x69 x79 x89 x99 bf9 ∧ mu_L_isBoard_128 lgd ccc cac cfc clc cf bcc bac bfc blc bf lgf cnt call swf fnf fb fk fg x49 x59 x69 x79 x89 x99 bf9 < mu_L_isBoard_128 lgd ccc cac cfc clc cf bcc bac bfc blc bf lgf cnt call swf fnf fb fk fg x4 x5 x6 x7 x8 x9 bf') (fun (x49 : Int32) (x59 : Int32) (x69 : Int32) (x79 : Int32) (x89 : Int32) (x99 : Int32) (bf9 : Nat → Int32) => I_L_isBoard_192 lgd ccc cac cfc clc cf bcc bac bfc blc bf lgf cnt call swf fnf fb fk fg x49 x59 x69 x79 x89 x99 bf9 ∧ mu_L_isBoard_192 lgd ccc cac cfc clc cf bcc bac bfc blc bf lgf cnt call swf fnf fb fk fg x49 x59 x69 x79 x89 x99 bf9 < mu_L_isBoard_128 lgd ccc cac cfc clc cf bcc bac bfc blc bf lgf cnt call swf fnf fb fk fg x4 x5 x6 x7 x8 x9 bf') x4 x5 x6 x7 x8 x9 bf' := by
  rintro x4 x5 x6 x7 x8 x9 bf' ⟨rfl, rfl, k, b, hk, rfl, rfl, rfl, rfl, hm⟩
  obtain ⟨⟨r, c, N, cl, ⟨g, hF, hC, hb, hs, hsc, hcl⟩, ⟨⟨rfl, rfl, rfl, rfl⟩, rfl, rfl, rfl, rfl⟩, hkk⟩, hl⟩ := hpre
  have hN := (gN g).2
  have hbN := bv_le hN hb
  have em := gmN g
  rw [em] at hk hm
  have hvp : vp_in (nI k) 12 := vp_in_nI (by omega) (by decide)
  have hzx := zxc_k g hk
  unfold vs_L_isBoard_128
  rw [nI_clamp (by omega), em, zat g hF hbN hk, zsz g hF hbN hk, zrm g hF hbN hk, zcl g hC hbN hcl hk, hkk k (by omega), b2i_01]
  have hJ : (I_L_isBoard_192 lgd (fg 1) (zac (fg 0) (fg 1)) (zfc (fg 1) r) (zlc (fg 1) (zfc (fg 1) r)) cf (fg 1) (zac (fg 0) (fg 1)) (zfc (fg 1) r) (zlc (fg 1) (zfc (fg 1) r)) bf lgf cnt call swf fnf fb fk fg 1 (b2i b) (nI k) x7 (szv (fg 0) (fg 1) N fb k) (rmv (fg 0) (fg 1) N fb k) bf ∧ mu_L_isBoard_192 lgd (fg 1) (zac (fg 0) (fg 1)) (zfc (fg 1) r) (zlc (fg 1) (zfc (fg 1) r)) cf (fg 1) (zac (fg 0) (fg 1)) (zfc (fg 1) r) (zlc (fg 1) (zfc (fg 1) r)) bf lgf cnt call swf fnf fb fk fg 1 (b2i b) (nI k) x7 (szv (fg 0) (fg 1) N fb k) (rmv (fg 0) (fg 1) N fb k) bf < mu_L_isBoard_128 lgd (fg 1) (zac (fg 0) (fg 1)) (zfc (fg 1) r) (zlc (fg 1) (zfc (fg 1) r)) cf (fg 1) (zac (fg 0) (fg 1)) (zfc (fg 1) r) (zlc (fg 1) (zfc (fg 1) r)) bf lgf cnt call swf fnf fb fk fg 1 (b2i b) (nI k) x7 (szv (fg 0) (fg 1) N fb k) (rmv (fg 0) (fg 1) N fb k) bf) := by
    refine ⟨⟨rfl, rfl, k, b, by rw [em]; exact hk, rfl, rfl, by rw [em], by rw [em]; exact hm⟩, ?_⟩
    show (12 - (nI k).toNatClampNeg) * 3 < (12 - (nI k).toNatClampNeg) * 3 + 1
    omega
  refine ⟨hzx, hvp, fun _ => ⟨hzx, hvp, fun c1 => ⟨fun _ => ⟨hzx, fun _ => ⟨hzx, fun _ => hJ, fun z => absurd rfl z⟩, fun z => absurd rfl z⟩, fun z => absurd c1 z⟩, fun c1 => ⟨fun _ => ⟨hzx, fun _ => ⟨hzx, fun _ => hJ, fun z => absurd rfl z⟩, fun z => absurd rfl z⟩, fun z => absurd ?_ z⟩⟩, fun z => absurd rfl z⟩
  rw [b2i_1, Bool.not_eq_true] at c1
  rw [c1]; rfl
theorem pl_L_isBoard_192 (lgd : Int32) (ccc : Int32) (cac : Int32) (cfc : Int32) (clc : Int32) (cf : Nat → Int32) (bcc : Int32) (bac : Int32) (bfc : Int32) (blc : Int32) (bf : Nat → Int32) (lgf : Nat → Int32) (cnt : Int32) (call : Int32) (swf : Nat → Int32) (fnf : Nat → Int32) (fb : Nat → Int32) (fk : Nat → Int32) (fg : Nat → Int32) (hpre : PK ccc cac cfc clc cf bcc bac bfc blc bf fb fk fg ∧ lgd = fg 2) : ∀ (x4 : Int32) (x5 : Int32) (x6 : Int32) (x7 : Int32) (x8 : Int32) (x9 : Int32) (bf' : Nat → Int32), I_L_isBoard_192 lgd ccc cac cfc clc cf bcc bac bfc blc bf lgf cnt call swf fnf fb fk fg x4 x5 x6 x7 x8 x9 bf' → vs_L_isBoard_192 lgd ccc cac cfc clc cf bcc bac bfc blc bf lgf cnt call swf fnf fb fk fg (fun (r : Int32) (u : (Nat → Int32)) => r = 1 ∧ u = (bf)) (fun (x49 : Int32) (x59 : Int32) (x69 : Int32) (bf9 : Nat → Int32) => I_L_isBoard_45 lgd ccc cac cfc clc cf bcc bac bfc blc bf lgf cnt call swf fnf fb fk fg x49 x59 x69 bf9 ∧ mu_L_isBoard_45 lgd ccc cac cfc clc cf bcc bac bfc blc bf lgf cnt call swf fnf fb fk fg x49 x59 x69 bf9 < mu_L_isBoard_192 lgd ccc cac cfc clc cf bcc bac bfc blc bf lgf cnt call swf fnf fb fk fg x4 x5 x6 x7 x8 x9 bf') (fun (x49 : Int32) (x59 : Int32) (x69 : Int32) (x79 : Int32) (x89 : Int32) (x99 : Int32) (bf9 : Nat → Int32) => I_L_isBoard_128 lgd ccc cac cfc clc cf bcc bac bfc blc bf lgf cnt call swf fnf fb fk fg x49 x59 x69 x79 x89 x99 bf9 ∧ mu_L_isBoard_128 lgd ccc cac cfc clc cf bcc bac bfc blc bf lgf cnt call swf fnf fb fk fg x49 x59 x69 x79 x89 x99 bf9 < mu_L_isBoard_192 lgd ccc cac cfc clc cf bcc bac bfc blc bf lgf cnt call swf fnf fb fk fg x4 x5 x6 x7 x8 x9 bf') (fun (x49 : Int32) (x59 : Int32) (x69 : Int32) (x79 : Int32) (x89 : Int32) (x99 : Int32) (bf9 : Nat → Int32) => I_L_isBoard_192 lgd ccc cac cfc clc cf bcc bac bfc blc bf lgf cnt call swf fnf fb fk fg x49 x59 x69 x79 x89 x99 bf9 ∧ mu_L_isBoard_192 lgd ccc cac cfc clc cf bcc bac bfc blc bf lgf cnt call swf fnf fb fk fg x49 x59 x69 x79 x89 x99 bf9 < mu_L_isBoard_192 lgd ccc cac cfc clc cf bcc bac bfc blc bf lgf cnt call swf fnf fb fk fg x4 x5 x6 x7 x8 x9 bf') x4 x5 x6 x7 x8 x9 bf' := by
  rintro x4 x5 x6 x7 x8 x9 bf' ⟨rfl, rfl, k, b, hk, rfl, rfl, rfl, hm⟩
  obtain ⟨⟨r, c, N, cl, ⟨g, hF, hC, hb, hs, hsc, hcl⟩, ⟨⟨rfl, rfl, rfl, rfl⟩, rfl, rfl, rfl, rfl⟩, hkk⟩, hl⟩ := hpre
  have hN := (gN g).2
  have hbN := bv_le hN hb
  have em := gmN g
  rw [em] at hk hm
  have hvp : vp_in (nI k) 12 := vp_in_nI (by omega) (by decide)
  rw [mSL_k g hF hbN hk] at hm
  unfold vs_L_isBoard_192
  rw [nI_clamp (by omega), em]
  have hfin : ∀ b', (b && (decide (szv (fg 0) (fg 1) N fb k = fb k) && !decide (szv (fg 0) (fg 1) N fb k ≤ 0))) = b' → ∀ y, y = nI k + 1 → (I_L_isBoard_45 lgd (fg 1) (zac (fg 0) (fg 1)) (zfc (fg 1) r) (zlc (fg 1) (zfc (fg 1) r)) cf (fg 1) (zac (fg 0) (fg 1)) (zfc (fg 1) r) (zlc (fg 1) (zfc (fg 1) r)) bf lgf cnt call swf fnf fb fk fg 1 (b2i b') y bf ∧ mu_L_isBoard_45 lgd (fg 1) (zac (fg 0) (fg 1)) (zfc (fg 1) r) (zlc (fg 1) (zfc (fg 1) r)) cf (fg 1) (zac (fg 0) (fg 1)) (zfc (fg 1) r) (zlc (fg 1) (zfc (fg 1) r)) bf lgf cnt call swf fnf fb fk fg 1 (b2i b') y bf < mu_L_isBoard_192 lgd (fg 1) (zac (fg 0) (fg 1)) (zfc (fg 1) r) (zlc (fg 1) (zfc (fg 1) r)) cf (fg 1) (zac (fg 0) (fg 1)) (zfc (fg 1) r) (zlc (fg 1) (zfc (fg 1) r)) bf lgf cnt call swf fnf fb fk fg 1 (b2i b) (nI k) x7 (szv (fg 0) (fg 1) N fb k) x9 bf) := by
    intro b' hb' y ey
    rw [ey]
    refine ⟨⟨rfl, rfl, k + 1, b', by rw [em]; omega, nI_1 k, rfl, ?_⟩, ?_⟩
    · rw [em, hm, ← hb']; simp only [Bool.and_assoc]
    · show (12 - (nI k + 1).toNatClampNeg) * 3 + 2 < (12 - (nI k).toNatClampNeg) * 3
      rw [nI_1, nI_clamp (by omega), nI_clamp (n := k) (by omega)]
      omega
  refine ⟨fun c0 => ?_, fun c0 => ⟨hvp, fun c1 => ⟨fun c2 => ?_, fun c2 => ?_⟩, fun c1 => ?_⟩⟩
  · rw [b2i_eq0] at c0
    exact hfin false (by rw [c0]; rfl)
  · exact hfin false (by rw [decide_eq_true c2]; simp)
  · rw [b2i_ne0] at c0
    exact hfin true (by rw [c0, decide_eq_true c1, decide_eq_false c2]; rfl)
  · exact hfin false (by rw [decide_eq_false c1]; simp)
theorem pe_L_isBoard (lgd : Int32) (ccc : Int32) (cac : Int32) (cfc : Int32) (clc : Int32) (cf : Nat → Int32) (bcc : Int32) (bac : Int32) (bfc : Int32) (blc : Int32) (bf : Nat → Int32) (lgf : Nat → Int32) (cnt : Int32) (call : Int32) (swf : Nat → Int32) (fnf : Nat → Int32) (fb : Nat → Int32) (fk : Nat → Int32) (fg : Nat → Int32) (hpre : PK ccc cac cfc clc cf bcc bac bfc blc bf fb fk fg ∧ lgd = fg 2) : ve_L_isBoard lgd ccc cac cfc clc cf bcc bac bfc blc bf lgf cnt call swf fnf fb fk fg (fun (r : Int32) (u : (Nat → Int32)) => r = 1 ∧ u = (bf)) (I_L_isBoard_45 lgd ccc cac cfc clc cf bcc bac bfc blc bf lgf cnt call swf fnf fb fk fg) (I_L_isBoard_128 lgd ccc cac cfc clc cf bcc bac bfc blc bf lgf cnt call swf fnf fb fk fg) (I_L_isBoard_192 lgd ccc cac cfc clc cf bcc bac bfc blc bf lgf cnt call swf fnf fb fk fg) := by
  obtain ⟨⟨r, c, N, cl, ⟨g, hF, hC, hb, hs, hsc, hcl⟩, ⟨⟨rfl, rfl, rfl, rfl⟩, rfl, rfl, rfl, rfl⟩, hkk⟩, hl⟩ := hpre
  have hN := (gN g).2
  have hbN := bv_le hN hb
  unfold ve_L_isBoard
  rw [gbc g, gmul g]
  have e : lso fb fg = true := (SND_mso g hF hbN (fun _ => 0)).mp hs
  rw [e]
  refine ⟨fun _ => ⟨fun _ => ⟨⟨r, c, N, g, hb⟩, fun z => absurd z (by decide), fun _ => ⟨rfl, rfl, 0, true, Nat.zero_le _, rfl, rfl, ?_⟩⟩, fun z => absurd hl z⟩, fun z => absurd rfl z⟩
  rw [Bool.true_and, Nat.sub_zero]
def I_L_canBe_11 (lgd : Int32) (ccc : Int32) (cac : Int32) (cfc : Int32) (clc : Int32) (cf : Nat → Int32) (bcc : Int32) (bac : Int32) (bfc : Int32) (blc : Int32) (bf : Nat → Int32) (lgf : Nat → Int32) (cnt : Int32) (call : Int32) (swf : Nat → Int32) (fnf : Nat → Int32) (fb : Nat → Int32) (fg : Nat → Int32) (p3 : Int32) : Int32 → Int32 → Int32 → (Nat → Int32) → (Nat → Int32) → Prop := fun x4 x5 x6 bf' fb' => bf = bf' ∧ x4 = 1 ∧ ∃ (m k : Nat), 1 ≤ m ∧ m ≤ 10 ∧ x6 = nI m ∧ k < mN (fg 0) (fg 1) ∧ p3 = nI k ∧ x5 = fb k ∧ ∀ i, ¬ i = k → fb' i = fb i
def mu_L_canBe_11 (lgd : Int32) (ccc : Int32) (cac : Int32) (cfc : Int32) (clc : Int32) (cf : Nat → Int32) (bcc : Int32) (bac : Int32) (bfc : Int32) (blc : Int32) (bf : Nat → Int32) (lgf : Nat → Int32) (cnt : Int32) (call : Int32) (swf : Nat → Int32) (fnf : Nat → Int32) (fb : Nat → Int32) (fg : Nat → Int32) (p3 : Int32) : Int32 → Int32 → Int32 → (Nat → Int32) → (Nat → Int32) → Nat := fun x4 x5 x6 bf' fb' => 10 - x6.toNatClampNeg
theorem upd_of {a b : Nat → Int32} {k : Nat} (h : ∀ i, ¬ i = k → a i = b i) (x : Int32) : upd a k x = upd b k x := by
  funext i
  unfold upd
  split
  · rfl
  · next z => exact h i z
theorem upd_id (b : Nat → Int32) (k : Nat) : upd b k (b k) = b := by
  funext i
  unfold upd
  split
  · next z => rw [z]
  · rfl
theorem pl_L_canBe_11 (lgd : Int32) (ccc : Int32) (cac : Int32) (cfc : Int32) (clc : Int32) (cf : Nat → Int32) (bcc : Int32) (bac : Int32) (bfc : Int32) (blc : Int32) (bf : Nat → Int32) (lgf : Nat → Int32) (cnt : Int32) (call : Int32) (swf : Nat → Int32) (fnf : Nat → Int32) (fb : Nat → Int32) (fg : Nat → Int32) (p3 : Int32) (hpre : (∃ z, PK ccc cac cfc clc cf bcc bac bfc blc bf fb z fg) ∧ cel fg p3) : ∀ (x4 : Int32) (x5 : Int32) (x6 : Int32) (bf' : Nat → Int32) (fb' : Nat → Int32), I_L_canBe_11 lgd ccc cac cfc clc cf bcc bac bfc blc bf lgf cnt call swf fnf fb fg p3 x4 x5 x6 bf' fb' → vs_L_canBe_11 lgd ccc cac cfc clc cf bcc bac bfc blc bf lgf cnt call swf fnf fb fg p3 (fun (r : Int32) (u : (Nat → Int32) × (Nat → Int32)) => r = 1 ∧ u = (bf, fb)) (fun (x49 : Int32) (x59 : Int32) (x69 : Int32) (bf9 : Nat → Int32) (fb9 : Nat → Int32) => I_L_canBe_11 lgd ccc cac cfc clc cf bcc bac bfc blc bf lgf cnt call swf fnf fb fg p3 x49 x59 x69 bf9 fb9 ∧ mu_L_canBe_11 lgd ccc cac cfc clc cf bcc bac bfc blc bf lgf cnt call swf fnf fb fg p3 x49 x59 x69 bf9 fb9 < mu_L_canBe_11 lgd ccc cac cfc clc cf bcc bac bfc blc bf lgf cnt call swf fnf fb fg p3 x4 x5 x6 bf' fb') x4 x5 x6 bf' fb' := by
  rintro x4 x5 x6 bf' fb' ⟨rfl, rfl, m, k, h1, hm, rfl, hk, rfl, rfl, hag⟩
  obtain ⟨⟨z9, r, c, N, cl, ⟨g, hF, hC, hb, hs, hsc, hcl⟩, ⟨⟨rfl, rfl, rfl, rfl⟩, rfl, rfl, rfl, rfl⟩, hkk⟩, hcel⟩ := hpre
  have hN := (gN g).2
  have hbN := bv_le hN hb
  have em := gmN g
  rw [em] at hk
  have hvp : vp_in (nI k) 12 := vp_in_nI (by omega) (by decide)
  unfold vs_L_canBe_11
  rw [nI_clamp (by omega)]
  have hup : ∀ x, upd fb' k x = upd fb k x := upd_of hag
  simp only [hup]
  rw [upd_id]
  refine ⟨fun c0 => ⟨hvp, rfl, trivial, rfl⟩, fun c0 => ⟨fun z => absurd z (by decide), fun _ => ?_⟩⟩
  have hm9 : m < 10 := by
    rw [show (10 : Int32) = nI 10 from rfl] at c0
    exact k_nle (by decide) (by omega) c0
  have hzx : zval bf ∧ zx2 (zac (fg 0) (fg 1)) (nI k) (nI m) = 0 := ⟨zval_FB hN hF, zx2_k g hk h1 hm9⟩
  have hJ : ∀ x, ∀ y, y = nI m + 1 → (I_L_canBe_11 lgd (fg 1) (zac (fg 0) (fg 1)) (zfc (fg 1) r) (zlc (fg 1) (zfc (fg 1) r)) cf (fg 1) (zac (fg 0) (fg 1)) (zfc (fg 1) r) (zlc (fg 1) (zfc (fg 1) r)) bf lgf cnt call swf fnf fb fg (nI k) 1 (fb k) y bf (upd fb k x) ∧ mu_L_canBe_11 lgd (fg 1) (zac (fg 0) (fg 1)) (zfc (fg 1) r) (zlc (fg 1) (zfc (fg 1) r)) cf (fg 1) (zac (fg 0) (fg 1)) (zfc (fg 1) r) (zlc (fg 1) (zfc (fg 1) r)) bf lgf cnt call swf fnf fb fg (nI k) 1 (fb k) y bf (upd fb k x) < mu_L_canBe_11 lgd (fg 1) (zac (fg 0) (fg 1)) (zfc (fg 1) r) (zlc (fg 1) (zfc (fg 1) r)) cf (fg 1) (zac (fg 0) (fg 1)) (zfc (fg 1) r) (zlc (fg 1) (zfc (fg 1) r)) bf lgf cnt call swf fnf fb fg (nI k) 1 (fb k) (nI m) bf fb') := by
    intro x y ey
    rw [ey]
    refine ⟨⟨rfl, rfl, m + 1, k, by omega, by omega, nI_1 m, by rw [em]; exact hk, rfl, rfl, fun i hi => ?_⟩, ?_⟩
    · unfold upd
      rw [if_neg hi]
    · exact hmu 10 hm9 (by decide)
  have hct := zct_mft (hf := fun _ => 0) g hF hbN hs hk h1 hm9
  unfold mft at hct
  rw [nI_clamp (by omega)] at hct
  rw [hct]
  by_cases e : fb k = 0
  · rw [e] at hJ ⊢
    have e2 : lso (upd fb k (nI m)) fg = mso (fg 0) (fg 1) (upd fb k (nI m)) (fun _ => 0) := rfl
    refine ⟨fun _ => ⟨hvp, hzx, fun _ => ⟨⟨r, c, N, g, bv_upd hb hm9⟩, ?_⟩, fun z => absurd rfl z⟩, fun z => absurd rfl z⟩
    rw [e2, decide_eq_true rfl, Bool.true_and]
    refine ⟨fun c1 => ⟨fun _ => hJ _, fun z => absurd c1 z⟩, fun c1 => ⟨fun _ => hJ _, fun z => absurd ?_ z⟩⟩
    rw [b2i_ne0] at c1
    rw [c1]; rfl
  · rw [decide_eq_false e, Bool.false_and]
    exact ⟨fun z => absurd z e, fun _ => ⟨hvp, hzx, fun z => absurd z e, fun _ => ⟨fun _ => by have z := hJ (fb k); rw [upd_id] at z; exact z, fun z => absurd rfl z⟩⟩⟩
theorem pe_L_canBe (lgd : Int32) (ccc : Int32) (cac : Int32) (cfc : Int32) (clc : Int32) (cf : Nat → Int32) (bcc : Int32) (bac : Int32) (bfc : Int32) (blc : Int32) (bf : Nat → Int32) (lgf : Nat → Int32) (cnt : Int32) (call : Int32) (swf : Nat → Int32) (fnf : Nat → Int32) (fb : Nat → Int32) (fg : Nat → Int32) (p3 : Int32) (hpre : (∃ z, PK ccc cac cfc clc cf bcc bac bfc blc bf fb z fg) ∧ cel fg p3) : ve_L_canBe lgd ccc cac cfc clc cf bcc bac bfc blc bf lgf cnt call swf fnf fb fg p3 (fun (r : Int32) (u : (Nat → Int32) × (Nat → Int32)) => r = 1 ∧ u = (bf, fb)) (I_L_canBe_11 lgd ccc cac cfc clc cf bcc bac bfc blc bf lgf cnt call swf fnf fb fg p3) := by
  obtain ⟨⟨z9, r, c, N, cl, ⟨g, -⟩, -⟩, k, hk, rfl⟩ := hpre
  have hN : mN (fg 0) (fg 1) ≤ 12 := by rw [gmN g]; exact (gN g).2
  refine ⟨vp_in_nI (by omega) (by decide), ?_⟩
  rintro y rfl
  exact ⟨rfl, rfl, 1, k, by decide, by decide, rfl, hk, rfl, by rw [nI_clamp (by omega)], fun _ _ => rfl⟩
/-! isHidden -/
def nrr (fg fb : Nat → Int32) (j : Nat) : Prop := ¬ fb j ≤ 0 ∧ ¬ fb j ≤ szv (fg 0) (fg 1) (mN (fg 0) (fg 1)) fb j
def HI (fg fb : Nat → Int32) (p x4 x5 : Int32) (k1 k2 : Nat) : Prop := ∃ a b : Bool, x4 = b2i a ∧ x5 = b2i b ∧ (a = true → ∃ j, j < k1 ∧ lnx (fg 1) (nI j) p = true ∧ nrr fg fb j) ∧ (a = false → ∀ j, j < k1 → lnx (fg 1) (nI j) p = true → ¬ nrr fg fb j) ∧ (b = false → ∀ j, j < k2 → lnx (fg 1) (nI j) p = true → ¬ fb j = 0)
section
variable {fg fb : Nat → Int32} {p x4 x5 : Int32} {k : Nat}
theorem HI_skip (h : HI fg fb p x4 x5 k k) (hl : lnx (fg 1) (nI k) p = false) : HI fg fb p x4 x5 (k + 1) (k + 1) := by
  obtain ⟨a, b, h1, h2, h3, h4, h5⟩ := h
  refine ⟨a, b, h1, h2, fun ha => ?_, fun ha j hj hn => ?_, fun hb j hj hn => ?_⟩
  · obtain ⟨j, hj, z⟩ := h3 ha
    exact ⟨j, by omega, z⟩
  · by_cases e : j = k
    · rw [e, hl] at hn; exact absurd hn (by decide)
    · exact h4 ha j (by omega) hn
  · by_cases e : j = k
    · rw [e, hl] at hn; exact absurd hn (by decide)
    · exact h5 hb j (by omega) hn
theorem HI_keep (h : HI fg fb p x4 x5 k k) (h0 : ¬ x4 = 0) : HI fg fb p 1 x5 (k + 1) k := by
  obtain ⟨a, b, h1, h2, h3, h4, h5⟩ := h
  rw [h1, b2i_ne0] at h0
  subst h0
  refine ⟨true, b, rfl, h2, fun ha => ?_, fun ha => absurd ha (by decide), h5⟩
  obtain ⟨j, hj, z⟩ := h3 ha
  exact ⟨j, by omega, z⟩
theorem HI_near (h : HI fg fb p x4 x5 k k) (hl : lnx (fg 1) (nI k) p = true) (hn : nrr fg fb k) : HI fg fb p 1 x5 (k + 1) k := by
  obtain ⟨a, b, h1, h2, h3, h4, h5⟩ := h
  exact ⟨true, b, rfl, h2, fun _ => ⟨k, by omega, hl, hn⟩, fun ha => absurd ha (by decide), h5⟩
theorem HI_far (h : HI fg fb p x4 x5 k k) (h0 : x4 = 0) (hn : ¬ nrr fg fb k) : HI fg fb p 0 x5 (k + 1) k := by
  obtain ⟨a, b, h1, h2, h3, h4, h5⟩ := h
  rw [h1, b2i_eq0] at h0
  subst h0
  refine ⟨false, b, rfl, h2, fun ha => absurd ha (by decide), fun ha j hj hl => ?_, h5⟩
  by_cases e : j = k
  · rw [e]; exact hn
  · exact h4 ha j (by omega) hl
theorem HI_e1 (h : HI fg fb p x4 x5 (k + 1) k) : HI fg fb p x4 1 (k + 1) (k + 1) := by
  obtain ⟨a, b, h1, h2, h3, h4, h5⟩ := h
  exact ⟨a, true, h1, rfl, h3, h4, fun hb => absurd hb (by decide)⟩
theorem HI_e0 (h : HI fg fb p x4 x5 (k + 1) k) (h0 : x5 = 0) (hn : ¬ fb k = 0) : HI fg fb p x4 0 (k + 1) (k + 1) := by
  obtain ⟨a, b, h1, h2, h3, h4, h5⟩ := h
  rw [h2, b2i_eq0] at h0
  subst h0
  refine ⟨a, false, h1, rfl, h3, h4, fun hb j hj hl => ?_⟩
  by_cases e : j = k
  · rw [e]; exact hn
  · exact h5 hb j (by omega) hl
end
def I_L_isHidden_29 (lgd : Int32) (ccc : Int32) (cac : Int32) (cfc : Int32) (clc : Int32) (cf : Nat → Int32) (bcc : Int32) (bac : Int32) (bfc : Int32) (blc : Int32) (bf : Nat → Int32) (lgf : Nat → Int32) (cnt : Int32) (call : Int32) (swf : Nat → Int32) (fnf : Nat → Int32) (fb : Nat → Int32) (fg : Nat → Int32) (p3 : Int32) : Int32 → Int32 → Int32 → Prop := fun x4 x5 x6 => ∃ k q : Nat, k ≤ mN (fg 0) (fg 1) ∧ x6 = nI k ∧ q < mN (fg 0) (fg 1) ∧ p3 = nI q ∧ fb q = 0 ∧ HI fg fb p3 x4 x5 k k
def mu_L_isHidden_29 (lgd : Int32) (ccc : Int32) (cac : Int32) (cfc : Int32) (clc : Int32) (cf : Nat → Int32) (bcc : Int32) (bac : Int32) (bfc : Int32) (blc : Int32) (bf : Nat → Int32) (lgf : Nat → Int32) (cnt : Int32) (call : Int32) (swf : Nat → Int32) (fnf : Nat → Int32) (fb : Nat → Int32) (fg : Nat → Int32) (p3 : Int32) : Int32 → Int32 → Int32 → Nat := fun x4 x5 x6 => (12 - x6.toNatClampNeg) * 2 + 1
def I_L_isHidden_83 (lgd : Int32) (ccc : Int32) (cac : Int32) (cfc : Int32) (clc : Int32) (cf : Nat → Int32) (bcc : Int32) (bac : Int32) (bfc : Int32) (blc : Int32) (bf : Nat → Int32) (lgf : Nat → Int32) (cnt : Int32) (call : Int32) (swf : Nat → Int32) (fnf : Nat → Int32) (fb : Nat → Int32) (fg : Nat → Int32) (p3 : Int32) : Int32 → Int32 → Int32 → Prop := fun x4 x5 x6 => ∃ k q : Nat, k < mN (fg 0) (fg 1) ∧ x6 = nI k ∧ q < mN (fg 0) (fg 1) ∧ p3 = nI q ∧ fb q = 0 ∧ HI fg fb p3 x4 x5 (k + 1) k
def mu_L_isHidden_83 (lgd : Int32) (ccc : Int32) (cac : Int32) (cfc : Int32) (clc : Int32) (cf : Nat → Int32) (bcc : Int32) (bac : Int32) (bfc : Int32) (blc : Int32) (bf : Nat → Int32) (lgf : Nat → Int32) (cnt : Int32) (call : Int32) (swf : Nat → Int32) (fnf : Nat → Int32) (fb : Nat → Int32) (fg : Nat → Int32) (p3 : Int32) : Int32 → Int32 → Int32 → Nat := fun x4 x5 x6 => (12 - x6.toNatClampNeg) * 2
theorem mu_hid1 {k : Nat} (h : k < 12) : (12 - (nI k + 1).toNatClampNeg) * 2 + 1 < (12 - (nI k).toNatClampNeg) * 2 := by
  rw [nI_1, nI_clamp (n := k + 1) (by omega), nI_clamp (n := k) (by omega)]
  omega
theorem pl_L_isHidden_29 (lgd : Int32) (ccc : Int32) (cac : Int32) (cfc : Int32) (clc : Int32) (cf : Nat → Int32) (bcc : Int32) (bac : Int32) (bfc : Int32) (blc : Int32) (bf : Nat → Int32) (lgf : Nat → Int32) (cnt : Int32) (call : Int32) (swf : Nat → Int32) (fnf : Nat → Int32) (fb : Nat → Int32) (fg : Nat → Int32) (p3 : Int32) (hpre : (∃ z, PK ccc cac cfc clc cf bcc bac bfc blc bf fb z fg) ∧ cel fg p3) : ∀ (x4 : Int32) (x5 : Int32) (x6 : Int32), I_L_isHidden_29 lgd ccc cac cfc clc cf bcc bac bfc blc bf lgf cnt call swf fnf fb fg p3 x4 x5 x6 → vs_L_isHidden_29 lgd ccc cac cfc clc cf bcc bac bfc blc bf lgf cnt call swf fnf fb fg p3 (fun (r : Int32) (u : Unit) => r = 1) (fun (x49 : Int32) (x59 : Int32) (x69 : Int32) => I_L_isHidden_29 lgd ccc cac cfc clc cf bcc bac bfc blc bf lgf cnt call swf fnf fb fg p3 x49 x59 x69 ∧ mu_L_isHidden_29 lgd ccc cac cfc clc cf bcc bac bfc blc bf lgf cnt call swf fnf fb fg p3 x49 x59 x69 < mu_L_isHidden_29 lgd ccc cac cfc clc cf bcc bac bfc blc bf lgf cnt call swf fnf fb fg p3 x4 x5 x6) (fun (x49 : Int32) (x59 : Int32) (x69 : Int32) => I_L_isHidden_83 lgd ccc cac cfc clc cf bcc bac bfc blc bf lgf cnt call swf fnf fb fg p3 x49 x59 x69 ∧ mu_L_isHidden_83 lgd ccc cac cfc clc cf bcc bac bfc blc bf lgf cnt call swf fnf fb fg p3 x49 x59 x69 < mu_L_isHidden_29 lgd ccc cac cfc clc cf bcc bac bfc blc bf lgf cnt call swf fnf fb fg p3 x4 x5 x6) x4 x5 x6 := by
  rintro x4 x5 x6 ⟨k, q, hk, rfl, hq, rfl, h0, hI⟩
  obtain ⟨⟨z9, r, c, N, cl, ⟨g, hF, hC, hb, hs, hsc, hcl⟩, ⟨⟨rfl, rfl, rfl, rfl⟩, rfl, rfl, rfl, rfl⟩, hkk⟩, hcel⟩ := hpre
  have hN := (gN g).2
  have hbN := bv_le hN hb
  have em := gmN g
  have hk0 := hk
  have hq0 := hq
  rw [em] at hk hq
  unfold vs_L_isHidden_29
  rw [gmul g]
  refine ⟨fun c0 => ⟨fun c1 => ⟨fun c2 => ⟨zxc_k g hq, fun c3 => ?_, fun _ => rfl⟩, fun _ => rfl⟩, fun c1 => ⟨zxc_k g hq, fun _ => rfl, fun c3 => ?_⟩⟩, fun c0 => ⟨gco0 g, fun c1 => ?_, fun c1 => ⟨fun c2 => ?_, fun c2 => ?_⟩⟩⟩
  · have c0 := k_le (by omega) (by omega) c0
    obtain rfl : k = N := by omega
    obtain ⟨a, b, h1, h2, h3, h4, h5⟩ := hI
    rw [h1, b2i_eq0] at c1
    rw [h2, b2i_eq0] at c2
    rw [hid_far g hF hbN hq h0 (fun i hn => ?_)] at c3
    · exact absurd c3 (by decide)
    · have hl := (lnx_nbr g hn.1 hq).mpr hn
      refine ⟨h5 c2 i hn.1 hl, fun hz => h4 c1 i hn.1 hl ?_⟩
      unfold nrr
      rw [em]
      exact (nea_sz g hF hbN hn.1).mp hz
  · have c0 := k_le (by omega) (by omega) c0
    obtain rfl : k = N := by omega
    obtain ⟨a, b, h1, h2, h3, h4, h5⟩ := hI
    rw [h1, b2i_ne0] at c1
    obtain ⟨j, hj, hl, hn⟩ := h3 c1
    unfold nrr at hn
    rw [em] at hn
    rw [hid_near g hF hq h0 ((lnx_nbr g hj hq).mp hl) ((nea_sz g hF hbN hj).mpr hn)] at c3
    exact absurd rfl c3
  · have hkN := k_nle (by omega) (by omega) c0
    rw [b2i_eq0] at c1
    rintro y rfl
    refine ⟨⟨k + 1, q, by rw [em]; omega, nI_1 k, hq0, rfl, h0, HI_skip hI c1⟩, ?_⟩
    have := mu_hid1 (k := k) (by omega)
    show (12 - (nI k + 1).toNatClampNeg) * 2 + 1 < (12 - (nI k).toNatClampNeg) * 2 + 1
    omega
  · have hkN := k_nle (by omega) (by omega) c0
    rw [b2i_ne0] at c1
    have hvp : vp_in (nI k) 12 := vp_in_nI (by omega) (by decide)
    rw [nI_clamp (by omega), zsz g hF hbN hkN]
    have hmu2 : ∀ x4' : Int32, mu_L_isHidden_83 lgd (fg 1) (zac (fg 0) (fg 1)) (zfc (fg 1) r) (zlc (fg 1) (zfc (fg 1) r)) cf (fg 1) (zac (fg 0) (fg 1)) (zfc (fg 1) r) (zlc (fg 1) (zfc (fg 1) r)) bf lgf cnt call swf fnf fb fg (nI q) x4' x5 (nI k) < mu_L_isHidden_29 lgd (fg 1) (zac (fg 0) (fg 1)) (zfc (fg 1) r) (zlc (fg 1) (zfc (fg 1) r)) cf (fg 1) (zac (fg 0) (fg 1)) (zfc (fg 1) r) (zlc (fg 1) (zfc (fg 1) r)) bf lgf cnt call swf fnf fb fg (nI q) x4 x5 (nI k) := fun _ => Nat.lt_succ_self _
    refine ⟨hvp, fun c3 => ⟨⟨k, q, by rw [em]; exact hkN, rfl, hq0, rfl, h0, HI_far hI c2 (fun z => z.1 c3)⟩, hmu2 _⟩, fun c3 => ⟨zxc_k g hkN, hvp, fun c4 => ⟨⟨k, q, by rw [em]; exact hkN, rfl, hq0, rfl, h0, HI_far hI c2 (fun z => z.2 (by rw [em]; exact c4))⟩, hmu2 _⟩, fun c4 => ⟨⟨k, q, by rw [em]; exact hkN, rfl, hq0, rfl, h0, HI_near hI c1 ⟨c3, by rw [em]; exact c4⟩⟩, hmu2 _⟩⟩⟩
  · have hkN := k_nle (by omega) (by omega) c0
    exact ⟨⟨k, q, by rw [em]; exact hkN, rfl, hq0, rfl, h0, HI_keep hI c2⟩, Nat.lt_succ_self _⟩
theorem pl_L_isHidden_83 (lgd : Int32) (ccc : Int32) (cac : Int32) (cfc : Int32) (clc : Int32) (cf : Nat → Int32) (bcc : Int32) (bac : Int32) (bfc : Int32) (blc : Int32) (bf : Nat → Int32) (lgf : Nat → Int32) (cnt : Int32) (call : Int32) (swf : Nat → Int32) (fnf : Nat → Int32) (fb : Nat → Int32) (fg : Nat → Int32) (p3 : Int32) (hpre : (∃ z, PK ccc cac cfc clc cf bcc bac bfc blc bf fb z fg) ∧ cel fg p3) : ∀ (x4 : Int32) (x5 : Int32) (x6 : Int32), I_L_isHidden_83 lgd ccc cac cfc clc cf bcc bac bfc blc bf lgf cnt call swf fnf fb fg p3 x4 x5 x6 → vs_L_isHidden_83 lgd ccc cac cfc clc cf bcc bac bfc blc bf lgf cnt call swf fnf fb fg p3 (fun (r : Int32) (u : Unit) => r = 1) (fun (x49 : Int32) (x59 : Int32) (x69 : Int32) => I_L_isHidden_29 lgd ccc cac cfc clc cf bcc bac bfc blc bf lgf cnt call swf fnf fb fg p3 x49 x59 x69 ∧ mu_L_isHidden_29 lgd ccc cac cfc clc cf bcc bac bfc blc bf lgf cnt call swf fnf fb fg p3 x49 x59 x69 < mu_L_isHidden_83 lgd ccc cac cfc clc cf bcc bac bfc blc bf lgf cnt call swf fnf fb fg p3 x4 x5 x6) (fun (x49 : Int32) (x59 : Int32) (x69 : Int32) => I_L_isHidden_83 lgd ccc cac cfc clc cf bcc bac bfc blc bf lgf cnt call swf fnf fb fg p3 x49 x59 x69 ∧ mu_L_isHidden_83 lgd ccc cac cfc clc cf bcc bac bfc blc bf lgf cnt call swf fnf fb fg p3 x49 x59 x69 < mu_L_isHidden_83 lgd ccc cac cfc clc cf bcc bac bfc blc bf lgf cnt call swf fnf fb fg p3 x4 x5 x6) x4 x5 x6 := by
  rintro x4 x5 x6 ⟨k, q, hk, rfl, hq, rfl, h0, hI⟩
  obtain ⟨⟨z9, r, c, N, cl, ⟨g, hF, hC, hb, hs, hsc, hcl⟩, ⟨⟨rfl, rfl, rfl, rfl⟩, rfl, rfl, rfl, rfl⟩, hkk⟩, hcel⟩ := hpre
  have hN := (gN g).2
  have em := gmN g
  have hk12 : k < 12 := by rw [em] at hk; omega
  have hvp : vp_in (nI k) 12 := vp_in_nI hk12 (by decide)
  unfold vs_L_isHidden_83
  rw [nI_clamp (by omega)]
  refine ⟨fun c0 => ⟨hvp, fun c1 => ?_, fun c1 => ?_⟩, fun c0 => ?_⟩ <;> rintro y rfl
  · exact ⟨⟨k + 1, q, by omega, nI_1 k, hq, rfl, h0, HI_e1 hI⟩, mu_hid1 hk12⟩
  · exact ⟨⟨k + 1, q, by omega, nI_1 k, hq, rfl, h0, HI_e0 hI c0 c1⟩, mu_hid1 hk12⟩
  · exact ⟨⟨k + 1, q, by omega, nI_1 k, hq, rfl, h0, HI_e1 hI⟩, mu_hid1 hk12⟩
theorem pe_L_isHidden (lgd : Int32) (ccc : Int32) (cac : Int32) (cfc : Int32) (clc : Int32) (cf : Nat → Int32) (bcc : Int32) (bac : Int32) (bfc : Int32) (blc : Int32) (bf : Nat → Int32) (lgf : Nat → Int32) (cnt : Int32) (call : Int32) (swf : Nat → Int32) (fnf : Nat → Int32) (fb : Nat → Int32) (fg : Nat → Int32) (p3 : Int32) (hpre : (∃ z, PK ccc cac cfc clc cf bcc bac bfc blc bf fb z fg) ∧ cel fg p3) : ve_L_isHidden lgd ccc cac cfc clc cf bcc bac bfc blc bf lgf cnt call swf fnf fb fg p3 (fun (r : Int32) (u : Unit) => r = 1) (I_L_isHidden_29 lgd ccc cac cfc clc cf bcc bac bfc blc bf lgf cnt call swf fnf fb fg p3) (I_L_isHidden_83 lgd ccc cac cfc clc cf bcc bac bfc blc bf lgf cnt call swf fnf fb fg p3) := by
  obtain ⟨⟨z9, r, c, N, cl, ⟨g, hF, hC, hb, hs, hsc, hcl⟩, ⟨⟨rfl, rfl, rfl, rfl⟩, rfl, rfl, rfl, rfl⟩, hkk⟩, q, hq, rfl⟩ := hpre
  have hN := (gN g).2
  have hbN := bv_le hN hb
  have em := gmN g
  have hq0 := hq
  rw [em] at hq
  unfold ve_L_isHidden
  rw [nI_clamp (by omega)]
  refine ⟨vp_in_nI (by omega) (by decide), fun c0 => ?_, fun c0 => ⟨zxc_k g hq, fun _ => rfl, fun c1 => ?_⟩⟩
  · refine ⟨0, q, Nat.zero_le _, rfl, hq0, rfl, ?_, false, false, rfl, rfl, fun z => absurd z (by decide), fun _ j hj => absurd hj (Nat.not_lt_zero _), fun _ j hj => absurd hj (Nat.not_lt_zero _)⟩
    rcases val_or hbN hq with e | ⟨v, h1, hv, e⟩
    · exact e
    · rw [e] at c0; exact absurd c0 (Int32.not_le.mpr (pos_nI h1 hv))
  · rw [hid_full g hF hq (fun z => by rw [z] at c0; exact c0 (by decide))] at c1
    exact absurd rfl c1
/-! areShapes -/
def SA (cc ac fc lc rw co : Int32) (N : Nat) (f bd : Nat → Int32) (p al : Nat) (wt : Nat → Nat) : Prop := al ≤ 4096 ∧ (∀ swf, (zli cc ac fc lc f (nI p) swf).1 = nI al) ∧
    (∀ swf j, j < N → zsw (zli cc ac fc lc f (nI p) swf).2.2 (nI j) = nI (wt j)) ∧ (∀ j, wt j ≤ al) ∧
    (∀ v, 1 ≤ v → v < 10 → bd p = nI v → (∀ j, bt (gw rw co (f v) (zbit (nI p))) j = true → wt j = al) ∧ sumF wt N = al * v ∧ (v ≤ fsz rw co f v p → al = 1)) ∧ (bd p = 0 → al = 0) ∧ (∀ j, j < N → ¬ bd j = 0 → ¬ bd j = bd p → wt j = 0)
def fdm (rw co : Int32) (N : Nat) (bd : Nat → Int32) (k : Nat) : Int32 := if bd k = 0 then 0 else gw rw co (lco bd (bd k) N) (zbit (nI k))
theorem sumF_max {a : Nat → Nat} {m : Nat} (h : ∀ j, a j ≤ m) : ∀ n, sumF a n ≤ n * m
  | 0 => by rw [Nat.zero_mul]; exact Nat.le_refl _
  | n + 1 => by
    have := sumF_max h n
    have := h n
    rw [sumF, Nat.succ_mul]; omega
def I_L_areShapes_33 (lgd : Int32) (ccc : Int32) (cac : Int32) (cfc : Int32) (clc : Int32) (cf : Nat → Int32) (bcc : Int32) (bac : Int32) (bfc : Int32) (blc : Int32) (bf : Nat → Int32) (lgf : Nat → Int32) (cnt : Int32) (call : Int32) (swf : Nat → Int32) (fnf : Nat → Int32) (fb : Nat → Int32) (fg : Nat → Int32) (p3 : Int32) : Int32 → Int32 → Int32 → Int32 → Int32 → (Nat → Int32) → Prop := fun x4 x5 x6 cnt' call' swf' => x5 = 0 ∧ x6 = 1 ∧ ∃ k al : Nat, ∃ wt : Nat → Nat, k < mN (fg 0) (fg 1) ∧ p3 = nI k ∧ x4 = nI al ∧ SA bcc bac bfc blc (fg 0) (fg 1) (mN (fg 0) (fg 1)) bf fb k al wt
def mu_L_areShapes_33 (lgd : Int32) (ccc : Int32) (cac : Int32) (cfc : Int32) (clc : Int32) (cf : Nat → Int32) (bcc : Int32) (bac : Int32) (bfc : Int32) (blc : Int32) (bf : Nat → Int32) (lgf : Nat → Int32) (cnt : Int32) (call : Int32) (swf : Nat → Int32) (fnf : Nat → Int32) (fb : Nat → Int32) (fg : Nat → Int32) (p3 : Int32) : Int32 → Int32 → Int32 → Int32 → Int32 → (Nat → Int32) → Nat := fun x4 x5 x6 cnt' call' swf' => 0
def I_L_areShapes_58 (lgd : Int32) (ccc : Int32) (cac : Int32) (cfc : Int32) (clc : Int32) (cf : Nat → Int32) (bcc : Int32) (bac : Int32) (bfc : Int32) (blc : Int32) (bf : Nat → Int32) (lgf : Nat → Int32) (cnt : Int32) (call : Int32) (swf : Nat → Int32) (fnf : Nat → Int32) (fb : Nat → Int32) (fg : Nat → Int32) (p3 : Int32) : Int32 → Int32 → Int32 → Int32 → Int32 → Int32 → (Nat → Int32) → Prop := fun x4 x5 x6 x7 cnt' call' swf' => x5 = 0 ∧ x6 = 1 ∧ ∃ k al : Nat, ∃ wt : Nat → Nat, k < mN (fg 0) (fg 1) ∧ p3 = nI k ∧ x4 = nI al ∧ x7 = fdm (fg 0) (fg 1) (mN (fg 0) (fg 1)) fb k ∧ SA bcc bac bfc blc (fg 0) (fg 1) (mN (fg 0) (fg 1)) bf fb k al wt
def mu_L_areShapes_58 (lgd : Int32) (ccc : Int32) (cac : Int32) (cfc : Int32) (clc : Int32) (cf : Nat → Int32) (bcc : Int32) (bac : Int32) (bfc : Int32) (blc : Int32) (bf : Nat → Int32) (lgf : Nat → Int32) (cnt : Int32) (call : Int32) (swf : Nat → Int32) (fnf : Nat → Int32) (fb : Nat → Int32) (fg : Nat → Int32) (p3 : Int32) : Int32 → Int32 → Int32 → Int32 → Int32 → Int32 → (Nat → Int32) → Nat := fun x4 x5 x6 x7 cnt' call' swf' => 0
def I_L_areShapes_61 (lgd : Int32) (ccc : Int32) (cac : Int32) (cfc : Int32) (clc : Int32) (cf : Nat → Int32) (bcc : Int32) (bac : Int32) (bfc : Int32) (blc : Int32) (bf : Nat → Int32) (lgf : Nat → Int32) (cnt : Int32) (call : Int32) (swf : Nat → Int32) (fnf : Nat → Int32) (fb : Nat → Int32) (fg : Nat → Int32) (p3 : Int32) : Int32 → Int32 → Int32 → Int32 → Int32 → Int32 → Int32 → (Nat → Int32) → Prop := fun x4 x5 x6 x7 x8 cnt' call' swf' => x6 = 1 ∧ ∃ k al j : Nat, ∃ wt : Nat → Nat, k < mN (fg 0) (fg 1) ∧ p3 = nI k ∧ x4 = nI al ∧ x7 = fdm (fg 0) (fg 1) (mN (fg 0) (fg 1)) fb k ∧ j ≤ mN (fg 0) (fg 1) ∧ x8 = nI j ∧ x5 = nI (sumF wt j) ∧ SA bcc bac bfc blc (fg 0) (fg 1) (mN (fg 0) (fg 1)) bf fb k al wt
def mu_L_areShapes_61 (lgd : Int32) (ccc : Int32) (cac : Int32) (cfc : Int32) (clc : Int32) (cf : Nat → Int32) (bcc : Int32) (bac : Int32) (bfc : Int32) (blc : Int32) (bf : Nat → Int32) (lgf : Nat → Int32) (cnt : Int32) (call : Int32) (swf : Nat → Int32) (fnf : Nat → Int32) (fb : Nat → Int32) (fg : Nat → Int32) (p3 : Int32) : Int32 → Int32 → Int32 → Int32 → Int32 → Int32 → Int32 → (Nat → Int32) → Nat := fun x4 x5 x6 x7 x8 cnt' call' swf' => (12 - x8.toNatClampNeg) * 2 + 1
def I_L_areShapes_152 (lgd : Int32) (ccc : Int32) (cac : Int32) (cfc : Int32) (clc : Int32) (cf : Nat → Int32) (bcc : Int32) (bac : Int32) (bfc : Int32) (blc : Int32) (bf : Nat → Int32) (lgf : Nat → Int32) (cnt : Int32) (call : Int32) (swf : Nat → Int32) (fnf : Nat → Int32) (fb : Nat → Int32) (fg : Nat → Int32) (p3 : Int32) : Int32 → Int32 → Int32 → Int32 → Int32 → Int32 → Int32 → Int32 → (Nat → Int32) → Prop := fun x4 x5 x6 x7 x8 x9 cnt' call' swf' => x6 = 1 ∧ ∃ k al j : Nat, ∃ wt : Nat → Nat, k < mN (fg 0) (fg 1) ∧ p3 = nI k ∧ x4 = nI al ∧ x7 = fdm (fg 0) (fg 1) (mN (fg 0) (fg 1)) fb k ∧ j < mN (fg 0) (fg 1) ∧ x8 = nI j ∧ x5 = nI (sumF wt (j + 1)) ∧ SA bcc bac bfc blc (fg 0) (fg 1) (mN (fg 0) (fg 1)) bf fb k al wt
def mu_L_areShapes_152 (lgd : Int32) (ccc : Int32) (cac : Int32) (cfc : Int32) (clc : Int32) (cf : Nat → Int32) (bcc : Int32) (bac : Int32) (bfc : Int32) (blc : Int32) (bf : Nat → Int32) (lgf : Nat → Int32) (cnt : Int32) (call : Int32) (swf : Nat → Int32) (fnf : Nat → Int32) (fb : Nat → Int32) (fg : Nat → Int32) (p3 : Int32) : Int32 → Int32 → Int32 → Int32 → Int32 → Int32 → Int32 → Int32 → (Nat → Int32) → Nat := fun x4 x5 x6 x7 x8 x9 cnt' call' swf' => (12 - x8.toNatClampNeg) * 2
theorem pl_L_areShapes_33 (lgd : Int32) (ccc : Int32) (cac : Int32) (cfc : Int32) (clc : Int32) (cf : Nat → Int32) (bcc : Int32) (bac : Int32) (bfc : Int32) (blc : Int32) (bf : Nat → Int32) (lgf : Nat → Int32) (cnt : Int32) (call : Int32) (swf : Nat → Int32) (fnf : Nat → Int32) (fb : Nat → Int32) (fg : Nat → Int32) (p3 : Int32) (hpre : (∃ z, PK ccc cac cfc clc cf bcc bac bfc blc bf fb z fg) ∧ cel fg p3) : ∀ (x4 : Int32) (x5 : Int32) (x6 : Int32) (cnt' : Int32) (call' : Int32) (swf' : Nat → Int32), I_L_areShapes_33 lgd ccc cac cfc clc cf bcc bac bfc blc bf lgf cnt call swf fnf fb fg p3 x4 x5 x6 cnt' call' swf' → vs_L_areShapes_33 lgd ccc cac cfc clc cf bcc bac bfc blc bf lgf cnt call swf fnf fb fg p3 (fun (r : Int32) (u : Int32 × Int32 × (Nat → Int32)) => r = 1) (fun (x49 : Int32) (x59 : Int32) (x69 : Int32) (cnt9 : Int32) (call9 : Int32) (swf9 : Nat → Int32) => I_L_areShapes_33 lgd ccc cac cfc clc cf bcc bac bfc blc bf lgf cnt call swf fnf fb fg p3 x49 x59 x69 cnt9 call9 swf9 ∧ mu_L_areShapes_33 lgd ccc cac cfc clc cf bcc bac bfc blc bf lgf cnt call swf fnf fb fg p3 x49 x59 x69 cnt9 call9 swf9 < mu_L_areShapes_33 lgd ccc cac cfc clc cf bcc bac bfc blc bf lgf cnt call swf fnf fb fg p3 x4 x5 x6 cnt' call' swf') (I_L_areShapes_58 lgd ccc cac cfc clc cf bcc bac bfc blc bf lgf cnt call swf fnf fb fg p3) (I_L_areShapes_61 lgd ccc cac cfc clc cf bcc bac bfc blc bf lgf cnt call swf fnf fb fg p3) (I_L_areShapes_152 lgd ccc cac cfc clc cf bcc bac bfc blc bf lgf cnt call swf fnf fb fg p3) x4 x5 x6 cnt' call' swf' := by
  rintro x4 x5 x6 cnt' call' swf' ⟨rfl, rfl, k, al, wt, hk, rfl, rfl, hSA⟩
  obtain ⟨⟨z9, r, c, N, cl, ⟨g, hF, hC, hb, hs, hsc, hcl⟩, ⟨⟨rfl, rfl, rfl, rfl⟩, rfl, rfl, rfl, rfl⟩, hkk⟩, -⟩ := hpre
  have hN := (gN g).2
  have hbN := bv_le hN hb
  have em := gmN g
  have hk0 := hk
  rw [em] at hk
  have hvp : vp_in (nI k) 12 := vp_in_nI (by omega) (by decide)
  unfold vs_L_areShapes_33
  rw [nI_clamp (by omega)]
  refine ⟨hvp, fun c => ⟨rfl, rfl, k, al, wt, hk0, rfl, rfl, ?_, hSA⟩, fun c => ⟨hvp, ⟨N, hN, gmul g⟩, ⟨r, _, N, k, g, hk, rfl, ?_⟩, ?_⟩⟩
  · unfold fdm; rw [if_pos c]
  · obtain ⟨v, hv, e⟩ := hbN k hk
    rw [e, em]; exact lco_sm hN
  · rintro y rfl
    exact ⟨rfl, rfl, k, al, wt, hk0, rfl, rfl, by unfold fdm; rw [if_neg c], hSA⟩
theorem pl_L_areShapes_58 (lgd : Int32) (ccc : Int32) (cac : Int32) (cfc : Int32) (clc : Int32) (cf : Nat → Int32) (bcc : Int32) (bac : Int32) (bfc : Int32) (blc : Int32) (bf : Nat → Int32) (lgf : Nat → Int32) (cnt : Int32) (call : Int32) (swf : Nat → Int32) (fnf : Nat → Int32) (fb : Nat → Int32) (fg : Nat → Int32) (p3 : Int32) (hpre : (∃ z, PK ccc cac cfc clc cf bcc bac bfc blc bf fb z fg) ∧ cel fg p3) : ∀ (x4 : Int32) (x5 : Int32) (x6 : Int32) (x7 : Int32) (cnt' : Int32) (call' : Int32) (swf' : Nat → Int32), I_L_areShapes_58 lgd ccc cac cfc clc cf bcc bac bfc blc bf lgf cnt call swf fnf fb fg p3 x4 x5 x6 x7 cnt' call' swf' → vs_L_areShapes_58 lgd ccc cac cfc clc cf bcc bac bfc blc bf lgf cnt call swf fnf fb fg p3 (fun (r : Int32) (u : Int32 × Int32 × (Nat → Int32)) => r = 1) (I_L_areShapes_33 lgd ccc cac cfc clc cf bcc bac bfc blc bf lgf cnt call swf fnf fb fg p3) (fun (x49 : Int32) (x59 : Int32) (x69 : Int32) (x79 : Int32) (cnt9 : Int32) (call9 : Int32) (swf9 : Nat → Int32) => I_L_areShapes_58 lgd ccc cac cfc clc cf bcc bac bfc blc bf lgf cnt call swf fnf fb fg p3 x49 x59 x69 x79 cnt9 call9 swf9 ∧ mu_L_areShapes_58 lgd ccc cac cfc clc cf bcc bac bfc blc bf lgf cnt call swf fnf fb fg p3 x49 x59 x69 x79 cnt9 call9 swf9 < mu_L_areShapes_58 lgd ccc cac cfc clc cf bcc bac bfc blc bf lgf cnt call swf fnf fb fg p3 x4 x5 x6 x7 cnt' call' swf') (I_L_areShapes_61 lgd ccc cac cfc clc cf bcc bac bfc blc bf lgf cnt call swf fnf fb fg p3) (I_L_areShapes_152 lgd ccc cac cfc clc cf bcc bac bfc blc bf lgf cnt call swf fnf fb fg p3) x4 x5 x6 x7 cnt' call' swf' := by
  rintro x4 x5 x6 x7 cnt' call' swf' ⟨rfl, rfl, k, al, wt, hk, rfl, rfl, rfl, hSA⟩
  exact ⟨rfl, k, al, 0, wt, hk, rfl, rfl, rfl, Nat.zero_le _, rfl, rfl, hSA⟩
theorem pl_L_areShapes_61 (lgd : Int32) (ccc : Int32) (cac : Int32) (cfc : Int32) (clc : Int32) (cf : Nat → Int32) (bcc : Int32) (bac : Int32) (bfc : Int32) (blc : Int32) (bf : Nat → Int32) (lgf : Nat → Int32) (cnt : Int32) (call : Int32) (swf : Nat → Int32) (fnf : Nat → Int32) (fb : Nat → Int32) (fg : Nat → Int32) (p3 : Int32) (hpre : (∃ z, PK ccc cac cfc clc cf bcc bac bfc blc bf fb z fg) ∧ cel fg p3) : ∀ (x4 : Int32) (x5 : Int32) (x6 : Int32) (x7 : Int32) (x8 : Int32) (cnt' : Int32) (call' : Int32) (swf' : Nat → Int32), I_L_areShapes_61 lgd ccc cac cfc clc cf bcc bac bfc blc bf lgf cnt call swf fnf fb fg p3 x4 x5 x6 x7 x8 cnt' call' swf' → vs_L_areShapes_61 lgd ccc cac cfc clc cf bcc bac bfc blc bf lgf cnt call swf fnf fb fg p3 (fun (r : Int32) (u : Int32 × Int32 × (Nat → Int32)) => r = 1) (I_L_areShapes_33 lgd ccc cac cfc clc cf bcc bac bfc blc bf lgf cnt call swf fnf fb fg p3) (I_L_areShapes_58 lgd ccc cac cfc clc cf bcc bac bfc blc bf lgf cnt call swf fnf fb fg p3) (fun (x49 : Int32) (x59 : Int32) (x69 : Int32) (x79 : Int32) (x89 : Int32) (cnt9 : Int32) (call9 : Int32) (swf9 : Nat → Int32) => I_L_areShapes_61 lgd ccc cac cfc clc cf bcc bac bfc blc bf lgf cnt call swf fnf fb fg p3 x49 x59 x69 x79 x89 cnt9 call9 swf9 ∧ mu_L_areShapes_61 lgd ccc cac cfc clc cf bcc bac bfc blc bf lgf cnt call swf fnf fb fg p3 x49 x59 x69 x79 x89 cnt9 call9 swf9 < mu_L_areShapes_61 lgd ccc cac cfc clc cf bcc bac bfc blc bf lgf cnt call swf fnf fb fg p3 x4 x5 x6 x7 x8 cnt' call' swf') (fun (x49 : Int32) (x59 : Int32) (x69 : Int32) (x79 : Int32) (x89 : Int32) (x99 : Int32) (cnt9 : Int32) (call9 : Int32) (swf9 : Nat → Int32) => I_L_areShapes_152 lgd ccc cac cfc clc cf bcc bac bfc blc bf lgf cnt call swf fnf fb fg p3 x49 x59 x69 x79 x89 x99 cnt9 call9 swf9 ∧ mu_L_areShapes_152 lgd ccc cac cfc clc cf bcc bac bfc blc bf lgf cnt call swf fnf fb fg p3 x49 x59 x69 x79 x89 x99 cnt9 call9 swf9 < mu_L_areShapes_61 lgd ccc cac cfc clc cf bcc bac bfc blc bf lgf cnt call swf fnf fb fg p3 x4 x5 x6 x7 x8 cnt' call' swf') x4 x5 x6 x7 x8 cnt' call' swf' := by
  rintro x4 x5 x6 x7 x8 cnt' call' swf' ⟨rfl, k, al, j, wt, hk, rfl, rfl, rfl, hj, rfl, rfl, hSA⟩
  obtain ⟨⟨z9, r, c, N, cl, ⟨g, hF, hC, hb, hs, hsc, hcl⟩, ⟨⟨rfl, rfl, rfl, rfl⟩, rfl, rfl, rfl, rfl⟩, hkk⟩, -⟩ := hpre
  have hN := (gN g).2
  have hbN := bv_le hN hb
  have em := gmN g
  have hk0 := hk
  have hSA0 := hSA
  rw [em] at hk hj hSA
  obtain ⟨s1, s2, s3, s4, s5, s6, s7⟩ := hSA
  have hvp : vp_in (nI k) 12 := vp_in_nI (by omega) (by decide)
  unfold vs_L_areShapes_61
  rw [gmul g, em, nI_clamp (n := k) (by omega)]
  refine ⟨fun c0 => ⟨fun z => absurd z (by decide), fun _ => ?_⟩, fun c0 => ⟨fun z => absurd z (by decide), fun _ => ?_⟩⟩
  · have c0 := k_le (by omega) (by omega) c0
    obtain rfl : j = N := by omega
    have hsum : nI (sumF wt j) = nI al * fb k := by
      rcases val_or hbN hk with e | ⟨v, h1, hv, e⟩
      · have h0 := s6 e
        have := sumF_max s4 j
        rw [h0, Nat.mul_zero] at this
        rw [e, h0, show sumF wt j = 0 by omega]; rfl
      · rw [(s5 v h1 hv e).2.1, e, pk_mul]
    have hsm : sm 12 (fdm (fg 0) (fg 1) j fb k) := by
      unfold fdm
      split
      · exact sm_0 12
      · exact sm_12 hN (gw_sm g (one_sm g hk))
    refine ⟨hvp, fun _ => ⟨hsm, hvp, fun _ => rfl, fun c1 => ⟨hvp, fun _ => rfl, fun c2 => ⟨fun _ => rfl, fun c3 => ?_⟩⟩⟩, fun z => absurd hsum z⟩
    rcases val_or hbN hk with e | ⟨v, h1, hv, e⟩
    · exact absurd e c2
    · have z := cn_12 (gw (fg 0) (fg 1) (bf v) (zbit (nI k)))
      unfold fdm at c1
      rw [if_neg c2, e, FB_lco hF hN hv, nI_ltI z (by omega)] at c1
      have := (s5 v h1 hv e).2.2 (by unfold fsz; omega)
      rw [this] at c3
      exact absurd rfl c3
  · have hjN := k_nle (by omega) (by omega) c0
    have hvj : vp_in (nI j) 12 := vp_in_nI (by omega) (by decide)
    rw [nI_clamp (n := j) (by omega)]
    refine ⟨zxc2_k g hk hjN, fun a1 a2 a3 => ?_⟩
    rintro y1 ey1 y2 ey2
    rw [s3 _ j hjN] at ey1
    subst ey1
    have hw := s4 j
    rw [nI_add] at ey2
    have hJ : ∀ x9, (I_L_areShapes_152 lgd (fg 1) (zac (fg 0) (fg 1)) (zfc (fg 1) r) (zlc (fg 1) (zfc (fg 1) r)) cf (fg 1) (zac (fg 0) (fg 1)) (zfc (fg 1) r) (zlc (fg 1) (zfc (fg 1) r)) bf lgf cnt call swf fnf fb fg (nI k) (nI al) y2 1 (fdm (fg 0) (fg 1) N fb k) (nI j) x9 a1 a2 a3 ∧ mu_L_areShapes_152 lgd (fg 1) (zac (fg 0) (fg 1)) (zfc (fg 1) r) (zlc (fg 1) (zfc (fg 1) r)) cf (fg 1) (zac (fg 0) (fg 1)) (zfc (fg 1) r) (zlc (fg 1) (zfc (fg 1) r)) bf lgf cnt call swf fnf fb fg (nI k) (nI al) y2 1 (fdm (fg 0) (fg 1) N fb k) (nI j) x9 a1 a2 a3 < mu_L_areShapes_61 lgd (fg 1) (zac (fg 0) (fg 1)) (zfc (fg 1) r) (zlc (fg 1) (zfc (fg 1) r)) cf (fg 1) (zac (fg 0) (fg 1)) (zfc (fg 1) r) (zlc (fg 1) (zfc (fg 1) r)) bf lgf cnt call swf fnf fb fg (nI k) (nI al) (nI (sumF wt j)) 1 (fdm (fg 0) (fg 1) N fb k) (nI j) cnt' call' swf') := fun x9 =>
      ⟨⟨rfl, k, al, j, wt, hk0, rfl, rfl, by rw [em], by rw [em]; exact hjN, rfl, by rw [ey2, sumF], hSA0⟩, Nat.lt_succ_self _⟩
    refine ⟨fun c1 => absurd c1 (nI_pos (by omega)), fun c1 => ⟨fun c2 => absurd c2 (nI_nlt hw (by omega)), fun c2 => ⟨fun c3 => ?_, fun c3 => ⟨fun c4 => ?_, fun c4 => ?_⟩⟩⟩⟩
    · exact ⟨hvj, fun _ => hJ _, fun c5 => ⟨hvj, hvp, fun _ => hJ _, fun c6 => ⟨fun _ => hJ _, fun c7 => absurd (by rw [s7 j hjN c5 c6]; rfl) c7⟩⟩⟩
    · exact ⟨hvj, fun _ => hJ _, fun c5 => ⟨hvj, hvp, fun _ => hJ _, fun c6 => ⟨fun _ => hJ _, fun c7 => absurd (by rw [s7 j hjN c5 c6]; rfl) c7⟩⟩⟩
    · exfalso
      apply c4
      rcases val_or hbN hk with e | ⟨v, h1, hv, e⟩
      · unfold fdm at c3
        rw [if_pos e, bit_k hN (sm_0 N) (by omega), bt_0] at c3
        exact absurd rfl c3
      · have e0 : ¬ fb k = 0 := fun z => nI_ne0' h1 hv (e.symm.trans z)
        unfold fdm at c3
        rw [if_neg e0, e, FB_lco hF hN hv, bit_k hN (gw_sm g (one_sm g hk)) (by omega)] at c3
        cases hbt : bt (gw (fg 0) (fg 1) (bf v) (zbit (nI k))) j with
        | true => rw [(s5 v h1 hv e).1 j hbt]
        | false => rw [hbt] at c3; exact absurd rfl c3
theorem pl_L_areShapes_152 (lgd : Int32) (ccc : Int32) (cac : Int32) (cfc : Int32) (clc : Int32) (cf : Nat → Int32) (bcc : Int32) (bac : Int32) (bfc : Int32) (blc : Int32) (bf : Nat → Int32) (lgf : Nat → Int32) (cnt : Int32) (call : Int32) (swf : Nat → Int32) (fnf : Nat → Int32) (fb : Nat → Int32) (fg : Nat → Int32) (p3 : Int32) (hpre : (∃ z, PK ccc cac cfc clc cf bcc bac bfc blc bf fb z fg) ∧ cel fg p3) : ∀ (x4 : Int32) (x5 : Int32) (x6 : Int32) (x7 : Int32) (x8 : Int32) (x9 : Int32) (cnt' : Int32) (call' : Int32) (swf' : Nat → Int32), I_L_areShapes_152 lgd ccc cac cfc clc cf bcc bac bfc blc bf lgf cnt call swf fnf fb fg p3 x4 x5 x6 x7 x8 x9 cnt' call' swf' → vs_L_areShapes_152 lgd ccc cac cfc clc cf bcc bac bfc blc bf lgf cnt call swf fnf fb fg p3 (fun (r : Int32) (u : Int32 × Int32 × (Nat → Int32)) => r = 1) (I_L_areShapes_33 lgd ccc cac cfc clc cf bcc bac bfc blc bf lgf cnt call swf fnf fb fg p3) (I_L_areShapes_58 lgd ccc cac cfc clc cf bcc bac bfc blc bf lgf cnt call swf fnf fb fg p3) (fun (x49 : Int32) (x59 : Int32) (x69 : Int32) (x79 : Int32) (x89 : Int32) (cnt9 : Int32) (call9 : Int32) (swf9 : Nat → Int32) => I_L_areShapes_61 lgd ccc cac cfc clc cf bcc bac bfc blc bf lgf cnt call swf fnf fb fg p3 x49 x59 x69 x79 x89 cnt9 call9 swf9 ∧ mu_L_areShapes_61 lgd ccc cac cfc clc cf bcc bac bfc blc bf lgf cnt call swf fnf fb fg p3 x49 x59 x69 x79 x89 cnt9 call9 swf9 < mu_L_areShapes_152 lgd ccc cac cfc clc cf bcc bac bfc blc bf lgf cnt call swf fnf fb fg p3 x4 x5 x6 x7 x8 x9 cnt' call' swf') (fun (x49 : Int32) (x59 : Int32) (x69 : Int32) (x79 : Int32) (x89 : Int32) (x99 : Int32) (cnt9 : Int32) (call9 : Int32) (swf9 : Nat → Int32) => I_L_areShapes_152 lgd ccc cac cfc clc cf bcc bac bfc blc bf lgf cnt call swf fnf fb fg p3 x49 x59 x69 x79 x89 x99 cnt9 call9 swf9 ∧ mu_L_areShapes_152 lgd ccc cac cfc clc cf bcc bac bfc blc bf lgf cnt call swf fnf fb fg p3 x49 x59 x69 x79 x89 x99 cnt9 call9 swf9 < mu_L_areShapes_152 lgd ccc cac cfc clc cf bcc bac bfc blc bf lgf cnt call swf fnf fb fg p3 x4 x5 x6 x7 x8 x9 cnt' call' swf') x4 x5 x6 x7 x8 x9 cnt' call' swf' := by
  rintro x4 x5 x6 x7 x8 x9 cnt' call' swf' ⟨rfl, k, al, j, wt, hk, rfl, rfl, rfl, hj, rfl, rfl, hSA⟩
  obtain ⟨⟨z9, r, c, N, cl, ⟨g, hF, hC, hb, hs, hsc, hcl⟩, ⟨⟨rfl, rfl, rfl, rfl⟩, rfl, rfl, rfl, rfl⟩, hkk⟩, -⟩ := hpre
  have hN := (gN g).2
  have em := gmN g
  have hj12 : j < 12 := by rw [em] at hj; omega
  rintro y rfl
  exact ⟨⟨rfl, k, al, j + 1, wt, hk, rfl, rfl, rfl, by omega, nI_1 j, rfl, hSA⟩, mu_hid1 hj12⟩
theorem pe_L_areShapes (lgd : Int32) (ccc : Int32) (cac : Int32) (cfc : Int32) (clc : Int32) (cf : Nat → Int32) (bcc : Int32) (bac : Int32) (bfc : Int32) (blc : Int32) (bf : Nat → Int32) (lgf : Nat → Int32) (cnt : Int32) (call : Int32) (swf : Nat → Int32) (fnf : Nat → Int32) (fb : Nat → Int32) (fg : Nat → Int32) (p3 : Int32) (hpre : (∃ z, PK ccc cac cfc clc cf bcc bac bfc blc bf fb z fg) ∧ cel fg p3) : ve_L_areShapes lgd ccc cac cfc clc cf bcc bac bfc blc bf lgf cnt call swf fnf fb fg p3 (fun (r : Int32) (u : Int32 × Int32 × (Nat → Int32)) => r = 1) (I_L_areShapes_33 lgd ccc cac cfc clc cf bcc bac bfc blc bf lgf cnt call swf fnf fb fg p3) (I_L_areShapes_58 lgd ccc cac cfc clc cf bcc bac bfc blc bf lgf cnt call swf fnf fb fg p3) (I_L_areShapes_61 lgd ccc cac cfc clc cf bcc bac bfc blc bf lgf cnt call swf fnf fb fg p3) (I_L_areShapes_152 lgd ccc cac cfc clc cf bcc bac bfc blc bf lgf cnt call swf fnf fb fg p3) := by
  obtain ⟨⟨z9, r, c, N, cl, ⟨g, hF, hC, hb, hs, hsc, hcl⟩, ⟨⟨rfl, rfl, rfl, rfl⟩, rfl, rfl, rfl, rfl⟩, hkk⟩, k, hk, rfl⟩ := hpre
  have hN := (gN g).2
  have hbN := bv_le hN hb
  have em := gmN g
  have hk0 := hk
  rw [em] at hk
  unfold ve_L_areShapes
  rw [nI_clamp (by omega)]
  refine ⟨zxc_k g hk, fun a1 a2 a3 => ?_⟩
  obtain ⟨al, wt, hSA⟩ := shapes_all g hF hbN hs hk
  have hSA2 : SA (fg 1) (zac (fg 0) (fg 1)) (zfc (fg 1) r) (zlc (fg 1) (zfc (fg 1) r)) (fg 0) (fg 1) (mN (fg 0) (fg 1)) bf fb k al wt := by rw [em]; exact hSA
  obtain ⟨s1, s2, s3, s4, s5, s6, s7⟩ := hSA
  rintro y ey
  rw [s2] at ey
  subst ey
  refine ⟨fun c => absurd c (nI_pos (by omega)), fun c => ⟨vp_in_nI (by omega) (by decide), fun _ => ⟨rfl, rfl, k, al, wt, hk0, rfl, rfl, hSA2⟩, fun c1 => ⟨fun _ => ⟨rfl, rfl, k, al, wt, hk0, rfl, rfl, hSA2⟩, fun c2 => ?_⟩⟩⟩
  exfalso
  rcases val_or hbN hk with e | ⟨v, h1, hv, e⟩
  · exact c2 (by rw [s6 e]; rfl)
  · exact c1 (by rw [e]; exact pos_nI h1 hv)
