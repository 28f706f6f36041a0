def vs_L_runs_33 (lgd : Int32) (ccc : Int32) (cac : Int32) (cfc : Int32) (clc : Int32) (cf : Nat → Int32) (bcc : Int32) (bac : Int32) (bfc : Int32) (blc : Int32) (bf : Nat → Int32) (lgf : Nat → Int32) (cnt : Int32) (call : Int32) (swf : Nat → Int32) (fnf : Nat → Int32) (fb : Nat → Int32) (fg : Nat → Int32) (fl : Nat → Int32) (p1 : Int32) (P : Int32 → ((Nat → Int32) × (Nat → Int32) × Int32 × Int32 × Int32 × (Nat → Int32) × (Nat → Int32) × (Nat → Int32) × (Nat → Int32)) → Prop) (J33 : Int32 → Int32 → Int32 → (Nat → Int32) → (Nat → Int32) → Int32 → Int32 → Int32 → (Nat → Int32) → (Nat → Int32) → (Nat → Int32) → (Nat → Int32) → Prop) (J50 : Int32 → Int32 → Int32 → Int32 → Int32 → Int32 → Int32 → (Nat → Int32) → (Nat → Int32) → Int32 → Int32 → Int32 → (Nat → Int32) → (Nat → Int32) → (Nat → Int32) → (Nat → Int32) → Prop) (J107 : Int32 → Int32 → Int32 → Int32 → Int32 → Int32 → Int32 → (Nat → Int32) → (Nat → Int32) → Int32 → Int32 → Int32 → (Nat → Int32) → (Nat → Int32) → (Nat → Int32) → (Nat → Int32) → Prop) (J230 : Int32 → Int32 → Int32 → Int32 → Int32 → Int32 → Int32 → (Nat → Int32) → (Nat → Int32) → Int32 → Int32 → Int32 → (Nat → Int32) → (Nat → Int32) → (Nat → Int32) → (Nat → Int32) → Prop) (J389 : Int32 → Int32 → Int32 → (Nat → Int32) → (Nat → Int32) → Int32 → Int32 → Int32 → (Nat → Int32) → (Nat → Int32) → (Nat → Int32) → (Nat → Int32) → Prop) (J418 : Int32 → Int32 → Int32 → Int32 → (Nat → Int32) → (Nat → Int32) → Int32 → Int32 → Int32 → (Nat → Int32) → (Nat → Int32) → (Nat → Int32) → (Nat → Int32) → Prop) (x5 : Int32) (x6 : Int32) (x7 : Int32) (bf' : Nat → Int32) (lgf' : Nat → Int32) (lgd' : Int32) (cnt' : Int32) (call' : Int32) (swf' : Nat → Int32) (fb' : Nat → Int32) (fg' : Nat → Int32) (fl' : Nat → Int32) : Prop := (x7 < 0 → (((fg' 0) * (fg' 1)) ≤ 9 → (zval bf' ∧ (zN bac ≤ 12 ∧ bc bac = nI (zN bac)) ∧ zx5 5 = 0) ∧ ∀ y_18 : Int32, y_18 = zcs bcc bac bfc blc bf' 0 5 → (J389 x5 x6 y_18 bf' lgf' lgd' cnt' call' swf' fb' fg' fl')) ∧ (¬ ((fg' 0) * (fg' 1)) ≤ 9 → (∃ N : Nat, N ≤ 12 ∧ fg' 0 * fg' 1 = nI N) ∧ (sm 12 (lco fb' 0 (mN (fg' 0) (fg' 1)))) ∧ ((nI (cn (lco fb' 0 (mN (fg' 0) (fg' 1))) 12)) ≤ 7 → (zval bf' ∧ (zN bac ≤ 12 ∧ bc bac = nI (zN bac)) ∧ zx5 5 = 0) ∧ ∀ y_23 : Int32, y_23 = zcs bcc bac bfc blc bf' 0 5 → (J389 x5 x6 y_23 bf' lgf' lgd' cnt' call' swf' fb' fg' fl')) ∧ (¬ (nI (cn (lco fb' 0 (mN (fg' 0) (fg' 1))) 12)) ≤ 7 → (J389 x5 x6 (-1) bf' lgf' lgd' cnt' call' swf' fb' fg' fl')))) ∧ (¬ x7 < 0 → (J50 x5 x6 x7 0 0 0 1 bf' lgf' lgd' cnt' call' swf' fb' fg' fl'))
def vs_L_runs_50 (lgd : Int32) (ccc : Int32) (cac : Int32) (cfc : Int32) (clc : Int32) (cf : Nat → Int32) (bcc : Int32) (bac : Int32) (bfc : Int32) (blc : Int32) (bf : Nat → Int32) (lgf : Nat → Int32) (cnt : Int32) (call : Int32) (swf : Nat → Int32) (fnf : Nat → Int32) (fb : Nat → Int32) (fg : Nat → Int32) (fl : Nat → Int32) (p1 : Int32) (P : Int32 → ((Nat → Int32) × (Nat → Int32) × Int32 × Int32 × Int32 × (Nat → Int32) × (Nat → Int32) × (Nat → Int32) × (Nat → Int32)) → Prop) (J33 : Int32 → Int32 → Int32 → (Nat → Int32) → (Nat → Int32) → Int32 → Int32 → Int32 → (Nat → Int32) → (Nat → Int32) → (Nat → Int32) → (Nat → Int32) → Prop) (J50 : Int32 → Int32 → Int32 → Int32 → Int32 → Int32 → Int32 → (Nat → Int32) → (Nat → Int32) → Int32 → Int32 → Int32 → (Nat → Int32) → (Nat → Int32) → (Nat → Int32) → (Nat → Int32) → Prop) (J107 : Int32 → Int32 → Int32 → Int32 → Int32 → Int32 → Int32 → (Nat → Int32) → (Nat → Int32) → Int32 → Int32 → Int32 → (Nat → Int32) → (Nat → Int32) → (Nat → Int32) → (Nat → Int32) → Prop) (J230 : Int32 → Int32 → Int32 → Int32 → Int32 → Int32 → Int32 → (Nat → Int32) → (Nat → Int32) → Int32 → Int32 → Int32 → (Nat → Int32) → (Nat → Int32) → (Nat → Int32) → (Nat → Int32) → Prop) (J389 : Int32 → Int32 → Int32 → (Nat → Int32) → (Nat → Int32) → Int32 → Int32 → Int32 → (Nat → Int32) → (Nat → Int32) → (Nat → Int32) → (Nat → Int32) → Prop) (J418 : Int32 → Int32 → Int32 → Int32 → (Nat → Int32) → (Nat → Int32) → Int32 → Int32 → Int32 → (Nat → Int32) → (Nat → Int32) → (Nat → Int32) → (Nat → Int32) → Prop) (x5 : Int32) (x6 : Int32) (x7 : Int32) (x8 : Int32) (x9 : Int32) (x10 : Int32) (x11 : Int32) (bf' : Nat → Int32) (lgf' : Nat → Int32) (lgd' : Int32) (cnt' : Int32) (call' : Int32) (swf' : Nat → Int32) (fb' : Nat → Int32) (fg' : Nat → Int32) (fl' : Nat → Int32) : Prop := (10 ≤ x11 → (J107 x5 x6 x7 x8 x9 x10 0 bf' lgf' lgd' cnt' call' swf' fb' fg' fl')) ∧ (¬ 10 ≤ x11 → (zval bf' ∧ zx2 bac x7 x11 = 0) ∧ ((b2i (zct bcc bac bfc blc bf' x7 x11)) = 0 → ∀ y_27 : Int32, y_27 = x8 + 0 → (zval bf' ∧ zx2 bac x7 x11 = 0) ∧ ((b2i (zct bcc bac bfc blc bf' x7 x11)) = 0 → ∀ y_30 : Int32, y_30 = x11 + 1 → (J50 x5 x6 x7 y_27 x9 x10 y_30 bf' lgf' lgd' cnt' call' swf' fb' fg' fl')) ∧ (¬ (b2i (zct bcc bac bfc blc bf' x7 x11)) = 0 → ∀ y_31 : Int32, y_31 = x11 + 1 → (J50 x5 x6 x7 y_27 x11 x10 y_31 bf' lgf' lgd' cnt' call' swf' fb' fg' fl'))) ∧ (¬ (b2i (zct bcc bac bfc blc bf' x7 x11)) = 0 → ∀ y_32 : Int32, y_32 = x8 + 1 → (zval bf' ∧ zx2 bac x7 x11 = 0) ∧ ((b2i (zct bcc bac bfc blc bf' x7 x11)) = 0 → ∀ y_35 : Int32, y_35 = x11 + 1 → (J50 x5 x6 x7 y_32 x9 x10 y_35 bf' lgf' lgd' cnt' call' swf' fb' fg' fl')) ∧ (¬ (b2i (zct bcc bac bfc blc bf' x7 x11)) = 0 → ∀ y_36 : Int32, y_36 = x11 + 1 → (J50 x5 x6 x7 y_32 x11 x10 y_36 bf' lgf' lgd' cnt' call' swf' fb' fg' fl'))))
def vs_L_runs_107 (lgd : Int32) (ccc : Int32) (cac : Int32) (cfc : Int32) (clc : Int32) (cf : Nat → Int32) (bcc : Int32) (bac : Int32) (bfc : Int32) (blc : Int32) (bf : Nat → Int32) (lgf : Nat → Int32) (cnt : Int32) (call : Int32) (swf : Nat → Int32) (fnf : Nat → Int32) (fb : Nat → Int32) (fg : Nat → Int32) (fl : Nat → Int32) (p1 : Int32) (P : Int32 → ((Nat → Int32) × (Nat → Int32) × Int32 × Int32 × Int32 × (Nat → Int32) × (Nat → Int32) × (Nat → Int32) × (Nat → Int32)) → Prop) (J33 : Int32 → Int32 → Int32 → (Nat → Int32) → (Nat → Int32) → Int32 → Int32 → Int32 → (Nat → Int32) → (Nat → Int32) → (Nat → Int32) → (Nat → Int32) → Prop) (J50 : Int32 → Int32 → Int32 → Int32 → Int32 → Int32 → Int32 → (Nat → Int32) → (Nat → Int32) → Int32 → Int32 → Int32 → (Nat → Int32) → (Nat → Int32) → (Nat → Int32) → (Nat → Int32) → Prop) (J107 : Int32 → Int32 → Int32 → Int32 → Int32 → Int32 → Int32 → (Nat → Int32) → (Nat → Int32) → Int32 → Int32 → Int32 → (Nat → Int32) → (Nat → Int32) → (Nat → Int32) → (Nat → Int32) → Prop) (J230 : Int32 → Int32 → Int32 → Int32 → Int32 → Int32 → Int32 → (Nat → Int32) → (Nat → Int32) → Int32 → Int32 → Int32 → (Nat → Int32) → (Nat → Int32) → (Nat → Int32) → (Nat → Int32) → Prop) (J389 : Int32 → Int32 → Int32 → (Nat → Int32) → (Nat → Int32) → Int32 → Int32 → Int32 → (Nat → Int32) → (Nat → Int32) → (Nat → Int32) → (Nat → Int32) → Prop) (J418 : Int32 → Int32 → Int32 → Int32 → (Nat → Int32) → (Nat → Int32) → Int32 → Int32 → Int32 → (Nat → Int32) → (Nat → Int32) → (Nat → Int32) → (Nat → Int32) → Prop) (x5 : Int32) (x6 : Int32) (x7 : Int32) (x8 : Int32) (x9 : Int32) (x10 : Int32) (x11 : Int32) (bf' : Nat → Int32) (lgf' : Nat → Int32) (lgd' : Int32) (cnt' : Int32) (call' : Int32) (swf' : Nat → Int32) (fb' : Nat → Int32) (fg' : Nat → Int32) (fl' : Nat → Int32) : Prop := (((fg' 0) * (fg' 1)) ≤ x11 → (p1 = 0 → (x8 = 1 → ∀ y_64 : Int32, y_64 = (10 * x7) + x9 → ∀ y_65 : Int32, y_65 = ((fg' 0) * (fg' 1)) - 1 → (J230 y_64 x6 x7 x8 x9 x10 y_65 bf' lgf' lgd' cnt' call' swf' fb' fg' fl')) ∧ (¬ x8 = 1 → (p1 = 2 → (zxc bac x7 = 0) ∧ ((b2i (zhas (zhi bcc bac bfc blc bf') x7)) = 0 → ∀ y_56 : Int32, y_56 = ((fg' 0) * (fg' 1)) - 1 → (J230 x5 x6 x7 x8 x9 x10 y_56 bf' lgf' lgd' cnt' call' swf' fb' fg' fl')) ∧ (¬ (b2i (zhas (zhi bcc bac bfc blc bf') x7)) = 0 → (x10 = 0 → (zval bf' ∧ zx2 bac x7 1 = 0) ∧ ((b2i (zct bcc bac bfc blc bf' x7 1)) = 0 → ∀ y_61 : Int32, y_61 = ((fg' 0) * (fg' 1)) - 1 → (J230 x5 x6 x7 x8 x9 x10 y_61 bf' lgf' lgd' cnt' call' swf' fb' fg' fl')) ∧ (¬ (b2i (zct bcc bac bfc blc bf' x7 1)) = 0 → ∀ y_62 : Int32, y_62 = (10 * x7) + 1 → ∀ y_63 : Int32, y_63 = ((fg' 0) * (fg' 1)) - 1 → (J230 y_62 x6 x7 x8 x9 x10 y_63 bf' lgf' lgd' cnt' call' swf' fb' fg' fl'))) ∧ (¬ x10 = 0 → ∀ y_58 : Int32, y_58 = ((fg' 0) * (fg' 1)) - 1 → (J230 x5 x6 x7 x8 x9 x10 y_58 bf' lgf' lgd' cnt' call' swf' fb' fg' fl')))) ∧ (¬ p1 = 2 → ∀ y_53 : Int32, y_53 = ((fg' 0) * (fg' 1)) - 1 → (J230 x5 x6 x7 x8 x9 x10 y_53 bf' lgf' lgd' cnt' call' swf' fb' fg' fl')))) ∧ (¬ p1 = 0 → (p1 = 2 → (zxc bac x7 = 0) ∧ ((b2i (zhas (zhi bcc bac bfc blc bf') x7)) = 0 → ∀ y_43 : Int32, y_43 = ((fg' 0) * (fg' 1)) - 1 → (J230 x5 x6 x7 x8 x9 x10 y_43 bf' lgf' lgd' cnt' call' swf' fb' fg' fl')) ∧ (¬ (b2i (zhas (zhi bcc bac bfc blc bf') x7)) = 0 → (x10 = 0 → (zval bf' ∧ zx2 bac x7 1 = 0) ∧ ((b2i (zct bcc bac bfc blc bf' x7 1)) = 0 → ∀ y_48 : Int32, y_48 = ((fg' 0) * (fg' 1)) - 1 → (J230 x5 x6 x7 x8 x9 x10 y_48 bf' lgf' lgd' cnt' call' swf' fb' fg' fl')) ∧ (¬ (b2i (zct bcc bac bfc blc bf' x7 1)) = 0 → ∀ y_49 : Int32, y_49 = (10 * x7) + 1 → ∀ y_50 : Int32, y_50 = ((fg' 0) * (fg' 1)) - 1 → (J230 y_49 x6 x7 x8 x9 x10 y_50 bf' lgf' lgd' cnt' call' swf' fb' fg' fl'))) ∧ (¬ x10 = 0 → ∀ y_45 : Int32, y_45 = ((fg' 0) * (fg' 1)) - 1 → (J230 x5 x6 x7 x8 x9 x10 y_45 bf' lgf' lgd' cnt' call' swf' fb' fg' fl')))) ∧ (¬ p1 = 2 → ∀ y_40 : Int32, y_40 = ((fg' 0) * (fg' 1)) - 1 → (J230 x5 x6 x7 x8 x9 x10 y_40 bf' lgf' lgd' cnt' call' swf' fb' fg' fl')))) ∧ (¬ ((fg' 0) * (fg' 1)) ≤ x11 → (x10 = 0 → (¬ fg' 1 = 0) ∧ ((b2i (lnx (fg' 1) x11 x7)) = 0 → ∀ y_70 : Int32, y_70 = x11 + 1 → (J107 x5 x6 x7 x8 x9 0 y_70 bf' lgf' lgd' cnt' call' swf' fb' fg' fl')) ∧ (¬ (b2i (lnx (fg' 1) x11 x7)) = 0 → vp_in x11 12 ∧ ((fb' x11.toNatClampNeg) = 0 → ∀ y_74 : Int32, y_74 = x11 + 1 → (J107 x5 x6 x7 x8 x9 1 y_74 bf' lgf' lgd' cnt' call' swf' fb' fg' fl')) ∧ (¬ (fb' x11.toNatClampNeg) = 0 → ∀ y_73 : Int32, y_73 = x11 + 1 → (J107 x5 x6 x7 x8 x9 0 y_73 bf' lgf' lgd' cnt' call' swf' fb' fg' fl')))) ∧ (¬ x10 = 0 → ∀ y_67 : Int32, y_67 = x11 + 1 → (J107 x5 x6 x7 x8 x9 1 y_67 bf' lgf' lgd' cnt' call' swf' fb' fg' fl')))
def vs_L_runs_230 (lgd : Int32) (ccc : Int32) (cac : Int32) (cfc : Int32) (clc : Int32) (cf : Nat → Int32) (bcc : Int32) (bac : Int32) (bfc : Int32) (blc : Int32) (bf : Nat → Int32) (lgf : Nat → Int32) (cnt : Int32) (call : Int32) (swf : Nat → Int32) (fnf : Nat → Int32) (fb : Nat → Int32) (fg : Nat → Int32) (fl : Nat → Int32) (p1 : Int32) (P : Int32 → ((Nat → Int32) × (Nat → Int32) × Int32 × Int32 × Int32 × (Nat → Int32) × (Nat → Int32) × (Nat → Int32) × (Nat → Int32)) → Prop) (J33 : Int32 → Int32 → Int32 → (Nat → Int32) → (Nat → Int32) → Int32 → Int32 → Int32 → (Nat → Int32) → (Nat → Int32) → (Nat → Int32) → (Nat → Int32) → Prop) (J50 : Int32 → Int32 → Int32 → Int32 → Int32 → Int32 → Int32 → (Nat → Int32) → (Nat → Int32) → Int32 → Int32 → Int32 → (Nat → Int32) → (Nat → Int32) → (Nat → Int32) → (Nat → Int32) → Prop) (J107 : Int32 → Int32 → Int32 → Int32 → Int32 → Int32 → Int32 → (Nat → Int32) → (Nat → Int32) → Int32 → Int32 → Int32 → (Nat → Int32) → (Nat → Int32) → (Nat → Int32) → (Nat → Int32) → Prop) (J230 : Int32 → Int32 → Int32 → Int32 → Int32 → Int32 → Int32 → (Nat → Int32) → (Nat → Int32) → Int32 → Int32 → Int32 → (Nat → Int32) → (Nat → Int32) → (Nat → Int32) → (Nat → Int32) → Prop) (J389 : Int32 → Int32 → Int32 → (Nat → Int32) → (Nat → Int32) → Int32 → Int32 → Int32 → (Nat → Int32) → (Nat → Int32) → (Nat → Int32) → (Nat → Int32) → Prop) (J418 : Int32 → Int32 → Int32 → Int32 → (Nat → Int32) → (Nat → Int32) → Int32 → Int32 → Int32 → (Nat → Int32) → (Nat → Int32) → (Nat → Int32) → (Nat → Int32) → Prop) (x5 : Int32) (x6 : Int32) (x7 : Int32) (x8 : Int32) (x9 : Int32) (x10 : Int32) (x11 : Int32) (bf' : Nat → Int32) (lgf' : Nat → Int32) (lgd' : Int32) (cnt' : Int32) (call' : Int32) (swf' : Nat → Int32) (fb' : Nat → Int32) (fg' : Nat → Int32) (fl' : Nat → Int32) : Prop := (x11 < 0 → ∀ y_76 : Int32, y_76 = x7 + (-1) → (J33 x5 x6 y_76 bf' lgf' lgd' cnt' call' swf' fb' fg' fl')) ∧ (¬ x11 < 0 → (p1 = 1 → (x6 = 0 → ∀ y_80 : Int32, y_80 = x7 + (-1) → (J33 x5 x6 y_80 bf' lgf' lgd' cnt' call' swf' fb' fg' fl')) ∧ (¬ x6 = 0 → vp_in x7 12 ∧ ((fb' x7.toNatClampNeg) = 0 → vp_in x11 12 ∧ ((fb' x11.toNatClampNeg) ≤ 0 → ∀ y_87 : Int32, y_87 = x11 + (-1) → (J230 x5 x6 x7 x8 x9 x10 y_87 bf' lgf' lgd' cnt' call' swf' fb' fg' fl')) ∧ (¬ (fb' x11.toNatClampNeg) ≤ 0 → (zxc bac x11 = 0) ∧ vp_in x11 12 ∧ ((fb' x11.toNatClampNeg) ≤ (bc (zfo bcc bac bfc blc bf' x11)) → ∀ y_92 : Int32, y_92 = x11 + (-1) → (J230 x5 x6 x7 x8 x9 x10 y_92 bf' lgf' lgd' cnt' call' swf' fb' fg' fl')) ∧ (¬ (fb' x11.toNatClampNeg) ≤ (bc (zfo bcc bac bfc blc bf' x11)) → vp_in x11 12 ∧ (zval bf' ∧ zx2 bac x7 (fb' x11.toNatClampNeg) = 0) ∧ ((b2i (zct bcc bac bfc blc bf' x7 (fb' x11.toNatClampNeg))) = 0 → ∀ y_97 : Int32, y_97 = x11 + (-1) → (J230 x5 x6 x7 x8 x9 x10 y_97 bf' lgf' lgd' cnt' call' swf' fb' fg' fl')) ∧ (¬ (b2i (zct bcc bac bfc blc bf' x7 (fb' x11.toNatClampNeg))) = 0 → (zxc bac x11 = 0) ∧ ∀ (cnt_99 : Int32) (call_99 : Int32) (swf_99 : Nat → Int32), (((zli bcc bac bfc blc bf' x11 swf').1) ≤ 0 → ∀ y_102 : Int32, y_102 = x11 + (-1) → (J230 x5 x6 x7 x8 x9 x10 y_102 bf' lgf' lgd' cnt_99 call_99 swf_99 fb' fg' fl')) ∧ (¬ ((zli bcc bac bfc blc bf' x11 swf').1) ≤ 0 → (zxc2 bac x11 x7 = 0) ∧ ∀ (cnt_104 : Int32) (call_104 : Int32) (swf_104 : Nat → Int32), (zxc bac x11 = 0) ∧ ∀ (cnt_106 : Int32) (call_106 : Int32) (swf_106 : Nat → Int32), ((zsw (zli bcc bac bfc blc bf' x11 swf_99).2.2 x7) = ((zli bcc bac bfc blc bf' x11 swf_104).1) → vp_in x11 12 ∧ ∀ y_112 : Int32, y_112 = (10 * x7) + (fb' x11.toNatClampNeg) → ∀ y_113 : Int32, y_113 = x11 + (-1) → (J230 y_112 x6 x7 x8 x9 x10 y_113 bf' lgf' lgd' cnt_106 call_106 swf_106 fb' fg' fl')) ∧ (¬ (zsw (zli bcc bac bfc blc bf' x11 swf_99).2.2 x7) = ((zli bcc bac bfc blc bf' x11 swf_104).1) → ∀ y_109 : Int32, y_109 = x11 + (-1) → (J230 x5 x6 x7 x8 x9 x10 y_109 bf' lgf' lgd' cnt_106 call_106 swf_106 fb' fg' fl'))))))) ∧ (¬ (fb' x7.toNatClampNeg) = 0 → ∀ y_83 : Int32, y_83 = x7 + (-1) → (J33 x5 x6 y_83 bf' lgf' lgd' cnt' call' swf' fb' fg' fl')))) ∧ (¬ p1 = 1 → ∀ y_78 : Int32, y_78 = x7 + (-1) → (J33 x5 x6 y_78 bf' lgf' lgd' cnt' call' swf' fb' fg' fl')))
def vs_L_runs_389 (lgd : Int32) (ccc : Int32) (cac : Int32) (cfc : Int32) (clc : Int32) (cf : Nat → Int32) (bcc : Int32) (bac : Int32) (bfc : Int32) (blc : Int32) (bf : Nat → Int32) (lgf : Nat → Int32) (cnt : Int32) (call : Int32) (swf : Nat → Int32) (fnf : Nat → Int32) (fb : Nat → Int32) (fg : Nat → Int32) (fl : Nat → Int32) (p1 : Int32) (P : Int32 → ((Nat → Int32) × (Nat → Int32) × Int32 × Int32 × Int32 × (Nat → Int32) × (Nat → Int32) × (Nat → Int32) × (Nat → Int32)) → Prop) (J33 : Int32 → Int32 → Int32 → (Nat → Int32) → (Nat → Int32) → Int32 → Int32 → Int32 → (Nat → Int32) → (Nat → Int32) → (Nat → Int32) → (Nat → Int32) → Prop) (J50 : Int32 → Int32 → Int32 → Int32 → Int32 → Int32 → Int32 → (Nat → Int32) → (Nat → Int32) → Int32 → Int32 → Int32 → (Nat → Int32) → (Nat → Int32) → (Nat → Int32) → (Nat → Int32) → Prop) (J107 : Int32 → Int32 → Int32 → Int32 → Int32 → Int32 → Int32 → (Nat → Int32) → (Nat → Int32) → Int32 → Int32 → Int32 → (Nat → Int32) → (Nat → Int32) → (Nat → Int32) → (Nat → Int32) → Prop) (J230 : Int32 → Int32 → Int32 → Int32 → Int32 → Int32 → Int32 → (Nat → Int32) → (Nat → Int32) → Int32 → Int32 → Int32 → (Nat → Int32) → (Nat → Int32) → (Nat → Int32) → (Nat → Int32) → Prop) (J389 : Int32 → Int32 → Int32 → (Nat → Int32) → (Nat → Int32) → Int32 → Int32 → Int32 → (Nat → Int32) → (Nat → Int32) → (Nat → Int32) → (Nat → Int32) → Prop) (J418 : Int32 → Int32 → Int32 → Int32 → (Nat → Int32) → (Nat → Int32) → Int32 → Int32 → Int32 → (Nat → Int32) → (Nat → Int32) → (Nat → Int32) → (Nat → Int32) → Prop) (x5 : Int32) (x6 : Int32) (x7 : Int32) (bf' : Nat → Int32) (lgf' : Nat → Int32) (lgd' : Int32) (cnt' : Int32) (call' : Int32) (swf' : Nat → Int32) (fb' : Nat → Int32) (fg' : Nat → Int32) (fl' : Nat → Int32) : Prop := (zval bf' ∧ (zN bac ≤ 12 ∧ bc bac = nI (zN bac)) ∧ zxr p1 = 0) ∧ ∀ (cnt_11 : Int32) (call_11 : Int32) (swf_11 : Nat → Int32), ∀ y_12 : Int32, y_12 = (zrun bcc bac bfc blc bf' p1) → (y_12 < 0 → (J418 x5 x6 x7 y_12 (if ¬ (zrun bcc bac bfc blc bf' p1) = -1 ∧ zlg lgd' then zwr bf' ((zrun bcc bac bfc blc bf' p1) / 10) (zrem (zrun bcc bac bfc blc bf' p1) 10) else bf') (if ¬ (zrun bcc bac bfc blc bf' p1) = -1 ∧ zlg lgd' then upd lgf' lgd'.toNatClampNeg ((zrun bcc bac bfc blc bf' p1) / 10) else lgf') (if ¬ (zrun bcc bac bfc blc bf' p1) = -1 ∧ zlg lgd' then lgd' + 1 else lgd') cnt_11 call_11 swf_11 fb' fg' fl')) ∧ (¬ y_12 < 0 → (vp_in (y_12 / 10) 12 ∧ vp_in (fg' 2) 12) ∧ (J418 x5 x6 x7 y_12 (if ¬ (zrun bcc bac bfc blc bf' p1) = -1 ∧ zlg lgd' then zwr bf' ((zrun bcc bac bfc blc bf' p1) / 10) (zrem (zrun bcc bac bfc blc bf' p1) 10) else bf') (if ¬ (zrun bcc bac bfc blc bf' p1) = -1 ∧ zlg lgd' then upd lgf' lgd'.toNatClampNeg ((zrun bcc bac bfc blc bf' p1) / 10) else lgf') (if ¬ (zrun bcc bac bfc blc bf' p1) = -1 ∧ zlg lgd' then lgd' + 1 else lgd') cnt_11 call_11 swf_11 (upd fb' (y_12 / 10).toNatClampNeg (y_12 - y_12 / 10 * 10)) (upd fg' 2 (fg' 2 + 1)) (upd fl' (fg' 2).toNatClampNeg (y_12 / 10))))
def vs_L_runs_418 (lgd : Int32) (ccc : Int32) (cac : Int32) (cfc : Int32) (clc : Int32) (cf : Nat → Int32) (bcc : Int32) (bac : Int32) (bfc : Int32) (blc : Int32) (bf : Nat → Int32) (lgf : Nat → Int32) (cnt : Int32) (call : Int32) (swf : Nat → Int32) (fnf : Nat → Int32) (fb : Nat → Int32) (fg : Nat → Int32) (fl : Nat → Int32) (p1 : Int32) (P : Int32 → ((Nat → Int32) × (Nat → Int32) × Int32 × Int32 × Int32 × (Nat → Int32) × (Nat → Int32) × (Nat → Int32) × (Nat → Int32)) → Prop) (J33 : Int32 → Int32 → Int32 → (Nat → Int32) → (Nat → Int32) → Int32 → Int32 → Int32 → (Nat → Int32) → (Nat → Int32) → (Nat → Int32) → (Nat → Int32) → Prop) (J50 : Int32 → Int32 → Int32 → Int32 → Int32 → Int32 → Int32 → (Nat → Int32) → (Nat → Int32) → Int32 → Int32 → Int32 → (Nat → Int32) → (Nat → Int32) → (Nat → Int32) → (Nat → Int32) → Prop) (J107 : Int32 → Int32 → Int32 → Int32 → Int32 → Int32 → Int32 → (Nat → Int32) → (Nat → Int32) → Int32 → Int32 → Int32 → (Nat → Int32) → (Nat → Int32) → (Nat → Int32) → (Nat → Int32) → Prop) (J230 : Int32 → Int32 → Int32 → Int32 → Int32 → Int32 → Int32 → (Nat → Int32) → (Nat → Int32) → Int32 → Int32 → Int32 → (Nat → Int32) → (Nat → Int32) → (Nat → Int32) → (Nat → Int32) → Prop) (J389 : Int32 → Int32 → Int32 → (Nat → Int32) → (Nat → Int32) → Int32 → Int32 → Int32 → (Nat → Int32) → (Nat → Int32) → (Nat → Int32) → (Nat → Int32) → Prop) (J418 : Int32 → Int32 → Int32 → Int32 → (Nat → Int32) → (Nat → Int32) → Int32 → Int32 → Int32 → (Nat → Int32) → (Nat → Int32) → (Nat → Int32) → (Nat → Int32) → Prop) (x5 : Int32) (x6 : Int32) (x7 : Int32) (x8 : Int32) (bf' : Nat → Int32) (lgf' : Nat → Int32) (lgd' : Int32) (cnt' : Int32) (call' : Int32) (swf' : Nat → Int32) (fb' : Nat → Int32) (fg' : Nat → Int32) (fl' : Nat → Int32) : Prop := (x8 = x5 → (x7 < 0 → P 1 (bf', lgf', lgd', cnt', call', swf', fb', fg', fl')) ∧ (¬ x7 < 0 → (zval bf' ∧ (zN bac ≤ 12 ∧ bc bac = nI (zN bac)) ∧ zx5 5 = 0) ∧ ((zcs bcc bac bfc blc bf' 0 5) = x7 → P 1 (bf', lgf', lgd', cnt', call', swf', fb', fg', fl')) ∧ (¬ (zcs bcc bac bfc blc bf' 0 5) = x7 → P 0 (bf', lgf', lgd', cnt', call', swf', fb', fg', fl')))) ∧ (¬ x8 = x5 → (p1 = 1 → (x6 = 0 → (x7 < 0 → P 1 (bf', lgf', lgd', cnt', call', swf', fb', fg', fl')) ∧ (¬ x7 < 0 → (zval bf' ∧ (zN bac ≤ 12 ∧ bc bac = nI (zN bac)) ∧ zx5 5 = 0) ∧ ((zcs bcc bac bfc blc bf' 0 5) = x7 → P 1 (bf', lgf', lgd', cnt', call', swf', fb', fg', fl')) ∧ (¬ (zcs bcc bac bfc blc bf' 0 5) = x7 → P 0 (bf', lgf', lgd', cnt', call', swf', fb', fg', fl')))) ∧ (¬ x6 = 0 → P 0 (bf', lgf', lgd', cnt', call', swf', fb', fg', fl'))) ∧ (¬ p1 = 1 → P 0 (bf', lgf', lgd', cnt', call', swf', fb', fg', fl')))
def ve_L_runs (lgd : Int32) (ccc : Int32) (cac : Int32) (cfc : Int32) (clc : Int32) (cf : Nat → Int32) (bcc : Int32) (bac : Int32) (bfc : Int32) (blc : Int32) (bf : Nat → Int32) (lgf : Nat → Int32) (cnt : Int32) (call : Int32) (swf : Nat → Int32) (fnf : Nat → Int32) (fb : Nat → Int32) (fg : Nat → Int32) (fl : Nat → Int32) (p1 : Int32) (P : Int32 → ((Nat → Int32) × (Nat → Int32) × Int32 × Int32 × Int32 × (Nat → Int32) × (Nat → Int32) × (Nat → Int32) × (Nat → Int32)) → Prop) (J33 : Int32 → Int32 → Int32 → (Nat → Int32) → (Nat → Int32) → Int32 → Int32 → Int32 → (Nat → Int32) → (Nat → Int32) → (Nat → Int32) → (Nat → Int32) → Prop) (J50 : Int32 → Int32 → Int32 → Int32 → Int32 → Int32 → Int32 → (Nat → Int32) → (Nat → Int32) → Int32 → Int32 → Int32 → (Nat → Int32) → (Nat → Int32) → (Nat → Int32) → (Nat → Int32) → Prop) (J107 : Int32 → Int32 → Int32 → Int32 → Int32 → Int32 → Int32 → (Nat → Int32) → (Nat → Int32) → Int32 → Int32 → Int32 → (Nat → Int32) → (Nat → Int32) → (Nat → Int32) → (Nat → Int32) → Prop) (J230 : Int32 → Int32 → Int32 → Int32 → Int32 → Int32 → Int32 → (Nat → Int32) → (Nat → Int32) → Int32 → Int32 → Int32 → (Nat → Int32) → (Nat → Int32) → (Nat → Int32) → (Nat → Int32) → Prop) (J389 : Int32 → Int32 → Int32 → (Nat → Int32) → (Nat → Int32) → Int32 → Int32 → Int32 → (Nat → Int32) → (Nat → Int32) → (Nat → Int32) → (Nat → Int32) → Prop) (J418 : Int32 → Int32 → Int32 → Int32 → (Nat → Int32) → (Nat → Int32) → Int32 → Int32 → Int32 → (Nat → Int32) → (Nat → Int32) → (Nat → Int32) → (Nat → Int32) → Prop) : Prop := (9 < ((fg 0) * (fg 1)) → ∀ y_115 : Int32, y_115 = ((fg 0) * (fg 1)) - 1 → (J33 (-1) 0 y_115 bf lgf lgd cnt call swf fb fg fl)) ∧ (¬ 9 < ((fg 0) * (fg 1)) → ∀ y_116 : Int32, y_116 = ((fg 0) * (fg 1)) - 1 → (J33 (-1) 1 y_116 bf lgf lgd cnt call swf fb fg fl))
/-! the law's own search for what a rule fills -/
def MFj (rw co : Int32) (N : Nat) (bd : Nat → Int32) (p : Int32) (j : Nat) : Int32 := enc (mrunF rw co bd (mlk rw co bd (fun _ => 0)) p N j)
def SHP (rw co : Int32) (N : Nat) (bd : Nat → Int32) (i t : Nat) (x d : Int32) : Prop := (∃ k, t ≤ k ∧ k < N ∧ frw rw co bd (fun _ => 0) k i ∧ (∀ k2, t ≤ k2 → k2 < k → ¬ frw rw co bd (fun _ => 0) k2 i) ∧ x = 10 * nI i + bd k) ∨ ((∀ k, t ≤ k → k < N → ¬ frw rw co bd (fun _ => 0) k i) ∧ x = d)
def DU (rw co : Int32) (N : Nat) (bd : Nat → Int32) (p x5 x6 : Int32) (j : Nat) : Prop := ¬ (p = 1 ∧ x6 = 0) → x5 = MFj rw co N bd p j
def LQ (rw co : Int32) (N : Nat) (bd : Nat → Int32) (p x5 x6 : Int32) (j t : Nat) : Prop := ¬ (p = 1 ∧ x6 = 0) → (p = 1 → bd (N - (j + 1)) = 0 → SHP rw co N bd (N - (j + 1)) t x5 (MFj rw co N bd p j)) ∧ (¬ (p = 1 ∧ bd (N - (j + 1)) = 0) → x5 = MFj rw co N bd p (j + 1))
section
variable {rw co : Int32} {r c N : Nat} {f bd : Nat → Int32} {p x5 x6 : Int32} {j : Nat}
theorem MF_step : MFj rw co N bd p (j + 1) = if bd (N - (j + 1)) = 0 ∧ 0 < mrun1 rw co bd (mlk rw co bd (fun _ => 0)) p (nI (N - (j + 1))) then 10 * nI (N - (j + 1)) + mrun1 rw co bd (mlk rw co bd (fun _ => 0)) p (nI (N - (j + 1))) else MFj rw co N bd p j := by
  unfold MFj
  rw [mrunF]
  split <;> rfl
theorem due0a {k : Nat} (hk : k < 2 ^ 31) {H : Nat → Int32} (h : (mon rw co bd H (nI k) 9).2 = 1) : bd k = 0 ∧ 0 < mrun1 rw co bd H 0 (nI k) ∧ mrun1 rw co bd H 0 (nI k) = (mon rw co bd H (nI k) 9).1 := by
  have e : mrun1 rw co bd H 0 (nI k) = (mon rw co bd H (nI k) 9).1 := by
    unfold mrun1 monr
    rw [if_pos rfl, if_pos h]
  rw [mon_2] at h
  have hle := cnN_le (rw := rw) (co := co) (bd := bd) (hf := H) (k := k) 9
  have h1 : cnN rw co bd H k 9 = 1 := nI_inj (by omega) (by decide) (h.trans (show (1 : Int32) = nI 1 from rfl))
  obtain ⟨v, hv1, hv, ev, hm⟩ := mon_1 (rw := rw) (co := co) (bd := bd) (hf := H) (k := k) 9 (Nat.le_refl _) (by omega)
  refine ⟨mft_0 hk hm, ?_, e⟩
  rw [e, ev]
  exact pos_nI hv1 hv
theorem due0b {k : Nat} {H : Nat → Int32} (h : ¬ (mon rw co bd H (nI k) 9).2 = 1) : ¬ 0 < mrun1 rw co bd H 0 (nI k) := by
  have e : mrun1 rw co bd H 0 (nI k) = 0 := by
    unfold mrun1 monr
    rw [if_pos rfl, if_neg h]
  rw [e]
  decide
theorem mrun1_2 {k : Nat} {H : Nat → Int32} : mrun1 rw co bd H 2 (nI k) = if mhn rw co bd H (nI k) then 1 else 0 := by
  unfold mrun1
  rw [if_neg (by decide), if_neg (by decide)]
theorem mrun1_1 {k : Nat} {H : Nat → Int32} (g : gok rw co r c N) : mrun1 rw co bd H 1 (nI k) = mshn rw co bd H (nI k) N N := by
  unfold mrun1
  rw [if_neg (by decide), if_pos rfl, gmN g]
theorem mhn_iff (g : gok rw co r c N) (h : FB N f bd) (hb : bv N bd) (hs : SND rw co f) {k : Nat} (hk : k < N) : mhn rw co bd (mlk rw co bd (fun _ => 0)) (nI k) = true ↔ zhas (zhi co (zac rw co) (zfc co r) (zlc co (zfc co r)) f) (nI k) = true ∧ (∀ q, nbr c N q k → ¬ bd q = 0) ∧ zct co (zac rw co) (zfc co r) (zlc co (zfc co r)) f (nI k) 1 = true := by
  have hN := (gN g).2
  unfold mhn
  rw [show (1 : Int32) = nI 1 from rfl, zct_mft (hf := mlk rw co bd (fun _ => 0)) g h hb hs hk (by decide) (by decide), zhi_mhd (hf := fun _ => 0) g h hb hk, mlk_FB g h (by decide)]
  rw [Bool.and_eq_true, Bool.and_eq_true, decide_eq_true_eq, and_assoc]
  refine and_congr_right (fun _ => and_congr_left (fun _ => ?_))
  constructor
  · intro hz q hn hq
    have h3 : bt (mbs rw co (zbit (nI k)) &&& f 0) q = true := by
      rw [bt_and, Bool.and_eq_true]
      exact ⟨(mbs_iff g (one_sm g hk)).mpr ⟨k, (bt_one g hk).mpr rfl, nbr_symm (gc3 g) hn⟩, (FB_0 h hN).mpr ⟨hn.1, hq⟩⟩
    rw [hz, bt_0] at h3
    exact absurd h3 (by decide)
  · intro hz
    apply bt_eq
    intro q
    rw [bt_0]
    refine ⟨fun h3 => ?_, fun h3 => absurd h3 (by decide)⟩
    rw [bt_and, Bool.and_eq_true] at h3
    obtain ⟨i, hi, hn⟩ := (mbs_iff g (one_sm g hk)).mp h3.1
    rw [bt_one g hk] at hi
    rw [hi] at hn
    exact absurd ((FB_0 h hN).mp h3.2).2 (hz q (nbr_symm (gc3 g) hn))
theorem zsw_k {G : Nat → Int32} {q : Nat} (hq : q < 12) : zsw G (nI q) = G q := by
  unfold zsw
  have e1 : ¬ nI q < 0 := nI_pos (by omega)
  have e2 : nI q < 12 := (nI_ltI (b := 12) (by omega) (by decide)).mpr hq
  rw [if_pos ⟨e1, e2⟩, nI_clamp (by omega)]
theorem frw_iff (g : gok rw co r c N) (h : FB N f bd) (hb : bv N bd) (hs : SND rw co f) {i k v : Nat} (hi : i < N) (hk : k < N) (h1 : 1 ≤ v) (hv : v < 10) (e : bd i = nI v) (s1 s2 s3 : Nat → Int32) :
    frw rw co bd (fun _ => 0) i k ↔ zct co (zac rw co) (zfc co r) (zlc co (zfc co r)) f (nI k) (nI v) = true ∧ 0 < (zli co (zac rw co) (zfc co r) (zlc co (zfc co r)) f (nI i) s1).1 ∧ zsw (zli co (zac rw co) (zfc co r) (zlc co (zfc co r)) f (nI i) s2).2.2 (nI k) = (zli co (zac rw co) (zfc co r) (zlc co (zfc co r)) f (nI i) s3).1 := by
  have hN := (gN g).2
  rw [zsw_k (by omega), zli_1 (hf := fun _ => 0) g h hi h1 hv e, zli_1 (hf := fun _ => 0) g h hi h1 hv e, zli_3 (hf := fun _ => 0) g h hi h1 hv e _ hk, zct_mft (hf := mlk rw co bd (fun _ => 0)) g h hb hs hk h1 hv]
  constructor
  · rintro ⟨w, w1, w2, ew, ha, hm⟩
    obtain rfl : w = v := nI_inj (by omega) (by omega) (ew.symm.trans e)
    exact ⟨hm, ha⟩
  · rintro ⟨hm, ha⟩
    exact ⟨v, h1, hv, e, ha, hm⟩
theorem frw_sz (g : gok rw co r c N) (h : FB N f bd) (hb : bv N bd) (hs : SND rw co f) {i k : Nat} (hi : i < N) (hk : k < N) (h0 : bd k = 0) (hw : frw rw co bd (fun _ => 0) i k) : ¬ bd i ≤ 0 ∧ ¬ bd i ≤ szv rw co N bd i := by
  obtain ⟨v, h1, hv, e, ha, hm⟩ := hw
  exact (nea_sz g h hb hi).mp ⟨v, h1, hv, e, frc_lt g h hs hi hk h1 hv e ha h0⟩
theorem SH_no {i t : Nat} {x d : Int32} (hS : SHP rw co N bd i (t + 1) x d) (hn : ¬ frw rw co bd (fun _ => 0) t i) : SHP rw co N bd i t x d := by
  rcases hS with ⟨k, a, b, e, f1, g1⟩ | ⟨a, b⟩
  · refine Or.inl ⟨k, by omega, b, e, fun k2 h1 h2 => ?_, g1⟩
    by_cases q : k2 = t
    · rw [q]; exact hn
    · exact f1 k2 (by omega) h2
  · refine Or.inr ⟨fun k h1 h2 => ?_, b⟩
    by_cases q : k = t
    · rw [q]; exact hn
    · exact a k (by omega) h2
theorem SH_yes {i t : Nat} {d : Int32} (ht : t < N) (hw : frw rw co bd (fun _ => 0) t i) : SHP rw co N bd i t (10 * nI i + bd t) d := Or.inl ⟨t, Nat.le_refl _, ht, hw, fun k2 h1 h2 => by omega, rfl⟩
/-- behind the loop over fields -/
theorem LQ_end (g : gok rw co r c N) (h : FB N f bd) (hb : bv N bd) (hs : SND rw co f) (hj : j < N) (hL : LQ rw co N bd p x5 x6 j 0) : DU rw co N bd p x5 x6 (j + 1) := by
  intro hn
  obtain ⟨a, b⟩ := hL hn
  by_cases hq : p = 1 ∧ bd (N - (j + 1)) = 0
  · have ha := a hq.1 hq.2
    have hi : N - (j + 1) < N := by omega
    rw [MF_step]
    have hp := hq.1
    subst hp
    rw [mrun1_1 g]
    refine shp_end (hf := fun _ => 0) g h hb hs hi ?_
    rcases ha with ⟨k, a1, a2, a3, a4, a5⟩ | ⟨a1, a2⟩
    · exact Or.inl ⟨k, a2, a3, fun k2 h2 => a4 k2 (Nat.zero_le _) h2, a5⟩
    · exact Or.inr ⟨fun k hk => a1 k (Nat.zero_le _) hk, a2⟩
  · exact b hq
theorem LQ_out {t : Nat} (hL : LQ rw co N bd p x5 x6 j t) (hn : ¬ (p = 1 ∧ bd (N - (j + 1)) = 0)) : DU rw co N bd p x5 x6 (j + 1) := fun z => (hL z).2 hn
theorem LQ_start1 (h : DU rw co N bd 1 x5 x6 j) : LQ rw co N bd 1 x5 x6 j N := by
  intro hn
  have e := h hn
  refine ⟨fun _ _ => Or.inr ⟨fun k h1 h2 => by omega, e⟩, fun hq => ?_⟩
  rw [MF_step, if_neg (fun z => hq ⟨rfl, z.1⟩)]
  exact e
theorem LQ_same {t : Nat} (hp : ¬ p = 1) (h : ¬ (p = 1 ∧ x6 = 0) → x5 = MFj rw co N bd p (j + 1)) : LQ rw co N bd p x5 x6 j t := fun hn => ⟨fun z => absurd z hp, fun _ => h hn⟩
end
/-- the empty cells beside a cell, as far as the law has looked -/
def EM (fg fb : Nat → Int32) (p x10 : Int32) (i : Nat) : Prop := ∃ b : Bool, x10 = b2i b ∧ (b = true → ∃ q, q < i ∧ lnx (fg 1) (nI q) p = true ∧ fb q = 0) ∧ (b = false → ∀ q, q < i → lnx (fg 1) (nI q) p = true → ¬ fb q = 0)
theorem EM_keep {fg fb : Nat → Int32} {p x10 : Int32} {i : Nat} (h : EM fg fb p x10 i) (h0 : ¬ x10 = 0) : EM fg fb p 1 (i + 1) := by
  obtain ⟨b, e, h1, h2⟩ := h
  rw [e, b2i_ne0] at h0
  subst h0
  obtain ⟨q, hq, z⟩ := h1 rfl
  exact ⟨true, rfl, fun _ => ⟨q, by omega, z⟩, fun z => absurd z (by decide)⟩
theorem EM_new {fg fb : Nat → Int32} {p : Int32} {i : Nat} (hl : lnx (fg 1) (nI i) p = true) (h0 : fb i = 0) : EM fg fb p 1 (i + 1) := ⟨true, rfl, fun _ => ⟨i, by omega, hl, h0⟩, fun z => absurd z (by decide)⟩
theorem EM_no {fg fb : Nat → Int32} {p x10 : Int32} {i : Nat} (h : EM fg fb p x10 i) (h0 : x10 = 0) (hn : lnx (fg 1) (nI i) p = true → ¬ fb i = 0) : EM fg fb p 0 (i + 1) := by
  obtain ⟨b, e, h1, h2⟩ := h
  rw [e, b2i_eq0] at h0
  subst h0
  refine ⟨false, rfl, fun z => absurd z (by decide), fun _ q hq hl => ?_⟩
  by_cases z : q = i
  · rw [z] at hl ⊢; exact hn hl
  · exact h2 rfl q (by omega) hl
def SM6 (fg : Nat → Int32) (x6 : Int32) : Prop := x6 = if mN (fg 0) (fg 1) ≤ 9 then 1 else 0
def EQ6 (bf bf' lgf lgf' : Nat → Int32) (lgd lgd' : Int32) (fb fb' fg fg' fl fl' : Nat → Int32) : Prop := bf = bf' ∧ lgf = lgf' ∧ lgd = lgd' ∧ fb = fb' ∧ fg = fg' ∧ fl = fl'
def MON (fg fb : Nat → Int32) (p : Int32) (m : Nat) : Int32 × Int32 := mon (fg 0) (fg 1) fb (mlk (fg 0) (fg 1) fb (fun _ => 0)) p m
def I_L_runs_33 (lgd : Int32) (ccc : Int32) (cac : Int32) (cfc : Int32) (clc : Int32) (cf : Nat → Int32) (bcc : Int32) (bac : Int32) (bfc : Int32) (blc : Int32) (bf : Nat → Int32) (lgf : Nat → Int32) (cnt : Int32) (call : Int32) (swf : Nat → Int32) (fnf : Nat → Int32) (fb : Nat → Int32) (fg : Nat → Int32) (fl : Nat → Int32) (p1 : Int32) : Int32 → Int32 → Int32 → (Nat → Int32) → (Nat → Int32) → Int32 → Int32 → Int32 → (Nat → Int32) → (Nat → Int32) → (Nat → Int32) → (Nat → Int32) → Prop := fun x5 x6 x7 bf' lgf' lgd' cnt' call' swf' fb' fg' fl' => EQ6 bf bf' lgf lgf' lgd lgd' fb fb' fg fg' fl fl' ∧ ∃ j : Nat, j ≤ mN (fg 0) (fg 1) ∧ x7 = nI (mN (fg 0) (fg 1) - j) - 1 ∧ DU (fg 0) (fg 1) (mN (fg 0) (fg 1)) fb p1 x5 x6 j
def mu_L_runs_33 (lgd : Int32) (ccc : Int32) (cac : Int32) (cfc : Int32) (clc : Int32) (cf : Nat → Int32) (bcc : Int32) (bac : Int32) (bfc : Int32) (blc : Int32) (bf : Nat → Int32) (lgf : Nat → Int32) (cnt : Int32) (call : Int32) (swf : Nat → Int32) (fnf : Nat → Int32) (fb : Nat → Int32) (fg : Nat → Int32) (fl : Nat → Int32) (p1 : Int32) : Int32 → Int32 → Int32 → (Nat → Int32) → (Nat → Int32) → Int32 → Int32 → Int32 → (Nat → Int32) → (Nat → Int32) → (Nat → Int32) → (Nat → Int32) → Nat := fun x5 x6 x7 bf' lgf' lgd' cnt' call' swf' fb' fg' fl' => (x7 + 1).toNatClampNeg * 100
def I_L_runs_50 (lgd : Int32) (ccc : Int32) (cac : Int32) (cfc : Int32) (clc : Int32) (cf : Nat → Int32) (bcc : Int32) (bac : Int32) (bfc : Int32) (blc : Int32) (bf : Nat → Int32) (lgf : Nat → Int32) (cnt : Int32) (call : Int32) (swf : Nat → Int32) (fnf : Nat → Int32) (fb : Nat → Int32) (fg : Nat → Int32) (fl : Nat → Int32) (p1 : Int32) : Int32 → Int32 → Int32 → Int32 → Int32 → Int32 → Int32 → (Nat → Int32) → (Nat → Int32) → Int32 → Int32 → Int32 → (Nat → Int32) → (Nat → Int32) → (Nat → Int32) → (Nat → Int32) → Prop := fun x5 x6 x7 x8 x9 x10 x11 bf' lgf' lgd' cnt' call' swf' fb' fg' fl' => EQ6 bf bf' lgf lgf' lgd lgd' fb fb' fg fg' fl fl' ∧ x10 = 0 ∧ ∃ j m : Nat, j < mN (fg 0) (fg 1) ∧ x7 = nI (mN (fg 0) (fg 1) - (j + 1)) ∧ DU (fg 0) (fg 1) (mN (fg 0) (fg 1)) fb p1 x5 x6 j ∧ m ≤ 9 ∧ x11 = nI (m + 1) ∧ x8 = (MON fg fb x7 m).2 ∧ x9 = (MON fg fb x7 m).1
def mu_L_runs_50 (lgd : Int32) (ccc : Int32) (cac : Int32) (cfc : Int32) (clc : Int32) (cf : Nat → Int32) (bcc : Int32) (bac : Int32) (bfc : Int32) (blc : Int32) (bf : Nat → Int32) (lgf : Nat → Int32) (cnt : Int32) (call : Int32) (swf : Nat → Int32) (fnf : Nat → Int32) (fb : Nat → Int32) (fg : Nat → Int32) (fl : Nat → Int32) (p1 : Int32) : Int32 → Int32 → Int32 → Int32 → Int32 → Int32 → Int32 → (Nat → Int32) → (Nat → Int32) → Int32 → Int32 → Int32 → (Nat → Int32) → (Nat → Int32) → (Nat → Int32) → (Nat → Int32) → Nat := fun x5 x6 x7 x8 x9 x10 x11 bf' lgf' lgd' cnt' call' swf' fb' fg' fl' => x7.toNatClampNeg * 100 + 60 + (12 - x11.toNatClampNeg)
def I_L_runs_107 (lgd : Int32) (ccc : Int32) (cac : Int32) (cfc : Int32) (clc : Int32) (cf : Nat → Int32) (bcc : Int32) (bac : Int32) (bfc : Int32) (blc : Int32) (bf : Nat → Int32) (lgf : Nat → Int32) (cnt : Int32) (call : Int32) (swf : Nat → Int32) (fnf : Nat → Int32) (fb : Nat → Int32) (fg : Nat → Int32) (fl : Nat → Int32) (p1 : Int32) : Int32 → Int32 → Int32 → Int32 → Int32 → Int32 → Int32 → (Nat → Int32) → (Nat → Int32) → Int32 → Int32 → Int32 → (Nat → Int32) → (Nat → Int32) → (Nat → Int32) → (Nat → Int32) → Prop := fun x5 x6 x7 x8 x9 x10 x11 bf' lgf' lgd' cnt' call' swf' fb' fg' fl' => EQ6 bf bf' lgf lgf' lgd lgd' fb fb' fg fg' fl fl' ∧ ∃ j i : Nat, j < mN (fg 0) (fg 1) ∧ x7 = nI (mN (fg 0) (fg 1) - (j + 1)) ∧ DU (fg 0) (fg 1) (mN (fg 0) (fg 1)) fb p1 x5 x6 j ∧ i ≤ mN (fg 0) (fg 1) ∧ x11 = nI i ∧ x8 = (MON fg fb x7 9).2 ∧ x9 = (MON fg fb x7 9).1 ∧ EM fg fb x7 x10 i
def mu_L_runs_107 (lgd : Int32) (ccc : Int32) (cac : Int32) (cfc : Int32) (clc : Int32) (cf : Nat → Int32) (bcc : Int32) (bac : Int32) (bfc : Int32) (blc : Int32) (bf : Nat → Int32) (lgf : Nat → Int32) (cnt : Int32) (call : Int32) (swf : Nat → Int32) (fnf : Nat → Int32) (fb : Nat → Int32) (fg : Nat → Int32) (fl : Nat → Int32) (p1 : Int32) : Int32 → Int32 → Int32 → Int32 → Int32 → Int32 → Int32 → (Nat → Int32) → (Nat → Int32) → Int32 → Int32 → Int32 → (Nat → Int32) → (Nat → Int32) → (Nat → Int32) → (Nat → Int32) → Nat := fun x5 x6 x7 x8 x9 x10 x11 bf' lgf' lgd' cnt' call' swf' fb' fg' fl' => x7.toNatClampNeg * 100 + 40 + (12 - x11.toNatClampNeg)
def I_L_runs_230 (lgd : Int32) (ccc : Int32) (cac : Int32) (cfc : Int32) (clc : Int32) (cf : Nat → Int32) (bcc : Int32) (bac : Int32) (bfc : Int32) (blc : Int32) (bf : Nat → Int32) (lgf : Nat → Int32) (cnt : Int32) (call : Int32) (swf : Nat → Int32) (fnf : Nat → Int32) (fb : Nat → Int32) (fg : Nat → Int32) (fl : Nat → Int32) (p1 : Int32) : Int32 → Int32 → Int32 → Int32 → Int32 → Int32 → Int32 → (Nat → Int32) → (Nat → Int32) → Int32 → Int32 → Int32 → (Nat → Int32) → (Nat → Int32) → (Nat → Int32) → (Nat → Int32) → Prop := fun x5 x6 x7 x8 x9 x10 x11 bf' lgf' lgd' cnt' call' swf' fb' fg' fl' => EQ6 bf bf' lgf lgf' lgd lgd' fb fb' fg fg' fl fl' ∧ ∃ j t : Nat, j < mN (fg 0) (fg 1) ∧ x7 = nI (mN (fg 0) (fg 1) - (j + 1)) ∧ t ≤ mN (fg 0) (fg 1) ∧ x11 = nI t - 1 ∧ LQ (fg 0) (fg 1) (mN (fg 0) (fg 1)) fb p1 x5 x6 j t
def mu_L_runs_230 (lgd : Int32) (ccc : Int32) (cac : Int32) (cfc : Int32) (clc : Int32) (cf : Nat → Int32) (bcc : Int32) (bac : Int32) (bfc : Int32) (blc : Int32) (bf : Nat → Int32) (lgf : Nat → Int32) (cnt : Int32) (call : Int32) (swf : Nat → Int32) (fnf : Nat → Int32) (fb : Nat → Int32) (fg : Nat → Int32) (fl : Nat → Int32) (p1 : Int32) : Int32 → Int32 → Int32 → Int32 → Int32 → Int32 → Int32 → (Nat → Int32) → (Nat → Int32) → Int32 → Int32 → Int32 → (Nat → Int32) → (Nat → Int32) → (Nat → Int32) → (Nat → Int32) → Nat := fun x5 x6 x7 x8 x9 x10 x11 bf' lgf' lgd' cnt' call' swf' fb' fg' fl' => x7.toNatClampNeg * 100 + 20 + (x11 + 1).toNatClampNeg
def I_L_runs_389 (lgd : Int32) (ccc : Int32) (cac : Int32) (cfc : Int32) (clc : Int32) (cf : Nat → Int32) (bcc : Int32) (bac : Int32) (bfc : Int32) (blc : Int32) (bf : Nat → Int32) (lgf : Nat → Int32) (cnt : Int32) (call : Int32) (swf : Nat → Int32) (fnf : Nat → Int32) (fb : Nat → Int32) (fg : Nat → Int32) (fl : Nat → Int32) (p1 : Int32) : Int32 → Int32 → Int32 → (Nat → Int32) → (Nat → Int32) → Int32 → Int32 → Int32 → (Nat → Int32) → (Nat → Int32) → (Nat → Int32) → (Nat → Int32) → Prop := fun x5 x6 x7 bf' lgf' lgd' cnt' call' swf' fb' fg' fl' => EQ6 bf bf' lgf lgf' lgd lgd' fb fb' fg fg' fl fl' ∧ DU (fg 0) (fg 1) (mN (fg 0) (fg 1)) fb p1 x5 x6 (mN (fg 0) (fg 1)) ∧ (x7 = -1 ∨ x7 = zcs bcc bac bfc blc bf 0 5)
def mu_L_runs_389 (lgd : Int32) (ccc : Int32) (cac : Int32) (cfc : Int32) (clc : Int32) (cf : Nat → Int32) (bcc : Int32) (bac : Int32) (bfc : Int32) (blc : Int32) (bf : Nat → Int32) (lgf : Nat → Int32) (cnt : Int32) (call : Int32) (swf : Nat → Int32) (fnf : Nat → Int32) (fb : Nat → Int32) (fg : Nat → Int32) (fl : Nat → Int32) (p1 : Int32) : Int32 → Int32 → Int32 → (Nat → Int32) → (Nat → Int32) → Int32 → Int32 → Int32 → (Nat → Int32) → (Nat → Int32) → (Nat → Int32) → (Nat → Int32) → Nat := fun x5 x6 x7 bf' lgf' lgd' cnt' call' swf' fb' fg' fl' => 0
def I_L_runs_418 (lgd : Int32) (ccc : Int32) (cac : Int32) (cfc : Int32) (clc : Int32) (cf : Nat → Int32) (bcc : Int32) (bac : Int32) (bfc : Int32) (blc : Int32) (bf : Nat → Int32) (lgf : Nat → Int32) (cnt : Int32) (call : Int32) (swf : Nat → Int32) (fnf : Nat → Int32) (fb : Nat → Int32) (fg : Nat → Int32) (fl : Nat → Int32) (p1 : Int32) : Int32 → Int32 → Int32 → Int32 → (Nat → Int32) → (Nat → Int32) → Int32 → Int32 → Int32 → (Nat → Int32) → (Nat → Int32) → (Nat → Int32) → (Nat → Int32) → Prop := fun x5 x6 x7 x8 bf' lgf' lgd' cnt' call' swf' fb' fg' fl' => DU (fg 0) (fg 1) (mN (fg 0) (fg 1)) fb p1 x5 x6 (mN (fg 0) (fg 1)) ∧ (x7 = -1 ∨ x7 = zcs bcc bac bfc blc bf 0 5) ∧ x8 = MFj (fg 0) (fg 1) (mN (fg 0) (fg 1)) fb p1 (mN (fg 0) (fg 1)) ∧ zval bf' ∧ zcs bcc bac bfc blc bf' 0 5 = zcs bcc bac bfc blc bf 0 5 ∧ ∀ z, PI lgd ccc cac cfc clc cf bcc bac bfc blc bf lgf fb z fg fl → PI lgd' ccc cac cfc clc cf bcc bac bfc blc bf' lgf' fb' z fg' fl'
def mu_L_runs_418 (lgd : Int32) (ccc : Int32) (cac : Int32) (cfc : Int32) (clc : Int32) (cf : Nat → Int32) (bcc : Int32) (bac : Int32) (bfc : Int32) (blc : Int32) (bf : Nat → Int32) (lgf : Nat → Int32) (cnt : Int32) (call : Int32) (swf : Nat → Int32) (fnf : Nat → Int32) (fb : Nat → Int32) (fg : Nat → Int32) (fl : Nat → Int32) (p1 : Int32) : Int32 → Int32 → Int32 → Int32 → (Nat → Int32) → (Nat → Int32) → Int32 → Int32 → Int32 → (Nat → Int32) → (Nat → Int32) → (Nat → Int32) → (Nat → Int32) → Nat := fun x5 x6 x7 x8 bf' lgf' lgd' cnt' call' swf' fb' fg' fl' => 0
theorem nI_back (t : Nat) : nI (t + 1) - 1 + 1 = nI (t + 1) := by rw [Int32.sub_add_cancel]
theorem nI_m1' (t : Nat) : nI t + (-1) = nI t - 1 := by rw [Int32.sub_eq_add_neg]
theorem nI_m0 : nI 0 - 1 < 0 := by decide
theorem pl_L_runs_33 (lgd : Int32) (ccc : Int32) (cac : Int32) (cfc : Int32) (clc : Int32) (cf : Nat → Int32) (bcc : Int32) (bac : Int32) (bfc : Int32) (blc : Int32) (bf : Nat → Int32) (lgf : Nat → Int32) (cnt : Int32) (call : Int32) (swf : Nat → Int32) (fnf : Nat → Int32) (fb : Nat → Int32) (fg : Nat → Int32) (fl : Nat → Int32) (p1 : Int32) (hpre : (∃ z, PI lgd ccc cac cfc clc cf bcc bac bfc blc bf lgf fb z fg fl) ∧ min3 p1 0 2 = true) : ∀ (x5 : Int32) (x6 : Int32) (x7 : Int32) (bf' : Nat → Int32) (lgf' : Nat → Int32) (lgd' : Int32) (cnt' : Int32) (call' : Int32) (swf' : Nat → Int32) (fb' : Nat → Int32) (fg' : Nat → Int32) (fl' : Nat → Int32), I_L_runs_33 lgd ccc cac cfc clc cf bcc bac bfc blc bf lgf cnt call swf fnf fb fg fl p1 x5 x6 x7 bf' lgf' lgd' cnt' call' swf' fb' fg' fl' → vs_L_runs_33 lgd ccc cac cfc clc cf bcc bac bfc blc bf lgf cnt call swf fnf fb fg fl p1 (fun (r : Int32) (u : (Nat → Int32) × (Nat → Int32) × Int32 × Int32 × Int32 × (Nat → Int32) × (Nat → Int32) × (Nat → Int32) × (Nat → Int32)) => r = 1 ∧ (∀ z, PI lgd ccc cac cfc clc cf bcc bac bfc blc bf lgf fb z fg fl → PI u.2.2.1 ccc cac cfc clc cf bcc bac bfc blc u.1 u.2.1 u.2.2.2.2.2.2.1 z u.2.2.2.2.2.2.2.1 u.2.2.2.2.2.2.2.2)) (fun (x59 : Int32) (x69 : Int32) (x79 : Int32) (bf9 : Nat → Int32) (lgf9 : Nat → Int32) (lgd9 : Int32) (cnt9 : Int32) (call9 : Int32) (swf9 : Nat → Int32) (fb9 : Nat → Int32) (fg9 : Nat → Int32) (fl9 : Nat → Int32) => I_L_runs_33 lgd ccc cac cfc clc cf bcc bac bfc blc bf lgf cnt call swf fnf fb fg fl p1 x59 x69 x79 bf9 lgf9 lgd9 cnt9 call9 swf9 fb9 fg9 fl9 ∧ mu_L_runs_33 lgd ccc cac cfc clc cf bcc bac bfc blc bf lgf cnt call swf fnf fb fg fl p1 x59 x69 x79 bf9 lgf9 lgd9 cnt9 call9 swf9 fb9 fg9 fl9 < mu_L_runs_33 lgd ccc cac cfc clc cf bcc bac bfc blc bf lgf cnt call swf fnf fb fg fl p1 x5 x6 x7 bf' lgf' lgd' cnt' call' swf' fb' fg' fl') (fun (x59 : Int32) (x69 : Int32) (x79 : Int32) (x89 : Int32) (x99 : Int32) (x109 : Int32) (x119 : Int32) (bf9 : Nat → Int32) (lgf9 : Nat → Int32) (lgd9 : Int32) (cnt9 : Int32) (call9 : Int32) (swf9 : Nat → Int32) (fb9 : Nat → Int32) (fg9 : Nat → Int32) (fl9 : Nat → Int32) => I_L_runs_50 lgd ccc cac cfc clc cf bcc bac bfc blc bf lgf cnt call swf fnf fb fg fl p1 x59 x69 x79 x89 x99 x109 x119 bf9 lgf9 lgd9 cnt9 call9 swf9 fb9 fg9 fl9 ∧ mu_L_runs_50 lgd ccc cac cfc clc cf bcc bac bfc blc bf lgf cnt call swf fnf fb fg fl p1 x59 x69 x79 x89 x99 x109 x119 bf9 lgf9 lgd9 cnt9 call9 swf9 fb9 fg9 fl9 < mu_L_runs_33 lgd ccc cac cfc clc cf bcc bac bfc blc bf lgf cnt call swf fnf fb fg fl p1 x5 x6 x7 bf' lgf' lgd' cnt' call' swf' fb' fg' fl') (fun (x59 : Int32) (x69 : Int32) (x79 : Int32) (x89 : Int32) (x99 : Int32) (x109 : Int32) (x119 : Int32) (bf9 : Nat → Int32) (lgf9 : Nat → Int32) (lgd9 : Int32) (cnt9 : Int32) (call9 : Int32) (swf9 : Nat → Int32) (fb9 : Nat → Int32) (fg9 : Nat → Int32) (fl9 : Nat → Int32) => I_L_runs_107 lgd ccc cac cfc clc cf bcc bac bfc blc bf lgf cnt call swf fnf fb fg fl p1 x59 x69 x79 x89 x99 x109 x119 bf9 lgf9 lgd9 cnt9 call9 swf9 fb9 fg9 fl9 ∧ mu_L_runs_107 lgd ccc cac cfc clc cf bcc bac bfc blc bf lgf cnt call swf fnf fb fg fl p1 x59 x69 x79 x89 x99 x109 x119 bf9 lgf9 lgd9 cnt9 call9 swf9 fb9 fg9 fl9 < mu_L_runs_33 lgd ccc cac cfc clc cf bcc bac bfc blc bf lgf cnt call swf fnf fb fg fl p1 x5 x6 x7 bf' lgf' lgd' cnt' call' swf' fb' fg' fl') (fun (x59 : Int32) (x69 : Int32) (x79 : Int32) (x89 : Int32) (x99 : Int32) (x109 : Int32) (x119 : Int32) (bf9 : Nat → Int32) (lgf9 : Nat → Int32) (lgd9 : Int32) (cnt9 : Int32) (call9 : Int32) (swf9 : Nat → Int32) (fb9 : Nat → Int32) (fg9 : Nat → Int32) (fl9 : Nat → Int32) => I_L_runs_230 lgd ccc cac cfc clc cf bcc bac bfc blc bf lgf cnt call swf fnf fb fg fl p1 x59 x69 x79 x89 x99 x109 x119 bf9 lgf9 lgd9 cnt9 call9 swf9 fb9 fg9 fl9 ∧ mu_L_runs_230 lgd ccc cac cfc clc cf bcc bac bfc blc bf lgf cnt call swf fnf fb fg fl p1 x59 x69 x79 x89 x99 x109 x119 bf9 lgf9 lgd9 cnt9 call9 swf9 fb9 fg9 fl9 < mu_L_runs_33 lgd ccc cac cfc clc cf bcc bac bfc blc bf lgf cnt call swf fnf fb fg fl p1 x5 x6 x7 bf' lgf' lgd' cnt' call' swf' fb' fg' fl') (I_L_runs_389 lgd ccc cac cfc clc cf bcc bac bfc blc bf lgf cnt call swf fnf fb fg fl p1) (I_L_runs_418 lgd ccc cac cfc clc cf bcc bac bfc blc bf lgf cnt call swf fnf fb fg fl p1) x5 x6 x7 bf' lgf' lgd' cnt' call' swf' fb' fg' fl' := by
  rintro x5 x6 x7 bf' lgf' lgd' cnt' call' swf' fb' fg' fl' ⟨⟨rfl, rfl, rfl, rfl, rfl, rfl⟩, j, hj, rfl, hD⟩
  obtain ⟨⟨z9, r, c, N, n, cl, hRB, ⟨⟨rfl, rfl, rfl, rfl⟩, rfl, rfl, rfl, rfl⟩, hkk, hlg, hfg, hRL⟩, h02⟩ := hpre
  obtain ⟨g, hF, hC, hb, hs, hsc, hcl⟩ := id hRB
  have hN := (gN g).2
  have em := gmN g
  unfold vs_L_runs_33
  rw [gmul g, em]
  rw [em] at hj hD
  have hq : zval bf ∧ (zN (zac (fg 0) (fg 1)) ≤ 12 ∧ bc (zac (fg 0) (fg 1)) = nI (zN (zac (fg 0) (fg 1)))) ∧ zx5 5 = 0 := ⟨zval_FB hN hF, zN_ok g, by decide⟩
  refine ⟨fun c0 => ?_, fun c0 => ?_⟩
  · have hjN : j = N := by
      apply Classical.byContradiction
      intro hn
      obtain ⟨t, ht⟩ : ∃ t, N - j = t + 1 := ⟨N - j - 1, by omega⟩
      rw [ht, nI_pred] at c0
      exact nI_pos (by omega) c0
    subst hjN
    refine ⟨fun _ => ⟨hq, ?_⟩, fun c1 => ⟨⟨j, hN, rfl⟩, sm_12 hN (lco_sm hN (v := 0)), fun _ => ⟨hq, ?_⟩, fun _ => ⟨⟨rfl, rfl, rfl, rfl, rfl, rfl⟩, by rw [em]; exact hD, Or.inl rfl⟩⟩⟩
    · rintro y rfl
      exact ⟨⟨rfl, rfl, rfl, rfl, rfl, rfl⟩, by rw [em]; exact hD, Or.inr rfl⟩
    · rintro y rfl
      exact ⟨⟨rfl, rfl, rfl, rfl, rfl, rfl⟩, by rw [em]; exact hD, Or.inr rfl⟩
  · have hjN : j < N := by
      apply Classical.byContradiction
      intro hn
      rw [show N - j = 0 by omega] at c0
      exact c0 nI_m0
    have ht : N - j = (N - (j + 1)) + 1 := by omega
    refine ⟨⟨⟨rfl, rfl, rfl, rfl, rfl, rfl⟩, rfl, j, 0, by rw [em]; exact hjN, by rw [em, ht, nI_pred], by rw [em]; exact hD, by decide, rfl, rfl, rfl⟩, ?_⟩
    show (nI (N - j) - 1).toNatClampNeg * 100 + 60 + (12 - (1 : Int32).toNatClampNeg) < (nI (N - j) - 1 + 1).toNatClampNeg * 100
    rw [ht, nI_back, nI_pred, nI_clamp (n := N - (j + 1)) (by omega), nI_clamp (n := N - (j + 1) + 1) (by omega)]
    have : (1 : Int32).toNatClampNeg = 1 := rfl
    omega
theorem pl_L_runs_50 (lgd : Int32) (ccc : Int32) (cac : Int32) (cfc : Int32) (clc : Int32) (cf : Nat → Int32) (bcc : Int32) (bac : Int32) (bfc : Int32) (blc : Int32) (bf : Nat → Int32) (lgf : Nat → Int32) (cnt : Int32) (call : Int32) (swf : Nat → Int32) (fnf : Nat → Int32) (fb : Nat → Int32) (fg : Nat → Int32) (fl : Nat → Int32) (p1 : Int32) (hpre : (∃ z, PI lgd ccc cac cfc clc cf bcc bac bfc blc bf lgf fb z fg fl) ∧ min3 p1 0 2 = true) : ∀ (x5 : Int32) (x6 : Int32) (x7 : Int32) (x8 : Int32) (x9 : Int32) (x10 : Int32) (x11 : Int32) (bf' : Nat → Int32) (lgf' : Nat → Int32) (lgd' : Int32) (cnt' : Int32) (call' : Int32) (swf' : Nat → Int32) (fb' : Nat → Int32) (fg' : Nat → Int32) (fl' : Nat → Int32), I_L_runs_50 lgd ccc cac cfc clc cf bcc bac bfc blc bf lgf cnt call swf fnf fb fg fl p1 x5 x6 x7 x8 x9 x10 x11 bf' lgf' lgd' cnt' call' swf' fb' fg' fl' → vs_L_runs_50 lgd ccc cac cfc clc cf bcc bac bfc blc bf lgf cnt call swf fnf fb fg fl p1 (fun (r : Int32) (u : (Nat → Int32) × (Nat → Int32) × Int32 × Int32 × Int32 × (Nat → Int32) × (Nat → Int32) × (Nat → Int32) × (Nat → Int32)) => r = 1 ∧ (∀ z, PI lgd ccc cac cfc clc cf bcc bac bfc blc bf lgf fb z fg fl → PI u.2.2.1 ccc cac cfc clc cf bcc bac bfc blc u.1 u.2.1 u.2.2.2.2.2.2.1 z u.2.2.2.2.2.2.2.1 u.2.2.2.2.2.2.2.2)) (fun (x59 : Int32) (x69 : Int32) (x79 : Int32) (bf9 : Nat → Int32) (lgf9 : Nat → Int32) (lgd9 : Int32) (cnt9 : Int32) (call9 : Int32) (swf9 : Nat → Int32) (fb9 : Nat → Int32) (fg9 : Nat → Int32) (fl9 : Nat → Int32) => I_L_runs_33 lgd ccc cac cfc clc cf bcc bac bfc blc bf lgf cnt call swf fnf fb fg fl p1 x59 x69 x79 bf9 lgf9 lgd9 cnt9 call9 swf9 fb9 fg9 fl9 ∧ mu_L_runs_33 lgd ccc cac cfc clc cf bcc bac bfc blc bf lgf cnt call swf fnf fb fg fl p1 x59 x69 x79 bf9 lgf9 lgd9 cnt9 call9 swf9 fb9 fg9 fl9 < mu_L_runs_50 lgd ccc cac cfc clc cf bcc bac bfc blc bf lgf cnt call swf fnf fb fg fl p1 x5 x6 x7 x8 x9 x10 x11 bf' lgf' lgd' cnt' call' swf' fb' fg' fl') (fun (x59 : Int32) (x69 : Int32) (x79 : Int32) (x89 : Int32) (x99 : Int32) (x109 : Int32) (x119 : Int32) (bf9 : Nat → Int32) (lgf9 : Nat → Int32) (lgd9 : Int32) (cnt9 : Int32) (call9 : Int32) (swf9 : Nat → Int32) (fb9 : Nat → Int32) (fg9 : Nat → Int32) (fl9 : Nat → Int32) => I_L_runs_50 lgd ccc cac cfc clc cf bcc bac bfc blc bf lgf cnt call swf fnf fb fg fl p1 x59 x69 x79 x89 x99 x109 x119 bf9 lgf9 lgd9 cnt9 call9 swf9 fb9 fg9 fl9 ∧ mu_L_runs_50 lgd ccc cac cfc clc cf bcc bac bfc blc bf lgf cnt call swf fnf fb fg fl p1 x59 x69 x79 x89 x99 x109 x119 bf9 lgf9 lgd9 cnt9 call9 swf9 fb9 fg9 fl9 < mu_L_runs_50 lgd ccc cac cfc clc cf bcc bac bfc blc bf lgf cnt call swf fnf fb fg fl p1 x5 x6 x7 x8 x9 x10 x11 bf' lgf' lgd' cnt' call' swf' fb' fg' fl') (fun (x59 : Int32) (x69 : Int32) (x79 : Int32) (x89 : Int32) (x99 : Int32) (x109 : Int32) (x119 : Int32) (bf9 : Nat → Int32) (lgf9 : Nat → Int32) (lgd9 : Int32) (cnt9 : Int32) (call9 : Int32) (swf9 : Nat → Int32) (fb9 : Nat → Int32) (fg9 : Nat → Int32) (fl9 : Nat → Int32) => I_L_runs_107 lgd ccc cac cfc clc cf bcc bac bfc blc bf lgf cnt call swf fnf fb fg fl p1 x59 x69 x79 x89 x99 x109 x119 bf9 lgf9 lgd9 cnt9 call9 swf9 fb9 fg9 fl9 ∧ mu_L_runs_107 lgd ccc cac cfc clc cf bcc bac bfc blc bf lgf cnt call swf fnf fb fg fl p1 x59 x69 x79 x89 x99 x109 x119 bf9 lgf9 lgd9 cnt9 call9 swf9 fb9 fg9 fl9 < mu_L_runs_50 lgd ccc cac cfc clc cf bcc bac bfc blc bf lgf cnt call swf fnf fb fg fl p1 x5 x6 x7 x8 x9 x10 x11 bf' lgf' lgd' cnt' call' swf' fb' fg' fl') (fun (x59 : Int32) (x69 : Int32) (x79 : Int32) (x89 : Int32) (x99 : Int32) (x109 : Int32) (x119 : Int32) (bf9 : Nat → Int32) (lgf9 : Nat → Int32) (lgd9 : Int32) (cnt9 : Int32) (call9 : Int32) (swf9 : Nat → Int32) (fb9 : Nat → Int32) (fg9 : Nat → Int32) (fl9 : Nat → Int32) => I_L_runs_230 lgd ccc cac cfc clc cf bcc bac bfc blc bf lgf cnt call swf fnf fb fg fl p1 x59 x69 x79 x89 x99 x109 x119 bf9 lgf9 lgd9 cnt9 call9 swf9 fb9 fg9 fl9 ∧ mu_L_runs_230 lgd ccc cac cfc clc cf bcc bac bfc blc bf lgf cnt call swf fnf fb fg fl p1 x59 x69 x79 x89 x99 x109 x119 bf9 lgf9 lgd9 cnt9 call9 swf9 fb9 fg9 fl9 < mu_L_runs_50 lgd ccc cac cfc clc cf bcc bac bfc blc bf lgf cnt call swf fnf fb fg fl p1 x5 x6 x7 x8 x9 x10 x11 bf' lgf' lgd' cnt' call' swf' fb' fg' fl') (I_L_runs_389 lgd ccc cac cfc clc cf bcc bac bfc blc bf lgf cnt call swf fnf fb fg fl p1) (I_L_runs_418 lgd ccc cac cfc clc cf bcc bac bfc blc bf lgf cnt call swf fnf fb fg fl p1) x5 x6 x7 x8 x9 x10 x11 bf' lgf' lgd' cnt' call' swf' fb' fg' fl' := by
  rintro x5 x6 x7 x8 x9 x10 x11 bf' lgf' lgd' cnt' call' swf' fb' fg' fl' ⟨⟨rfl, rfl, rfl, rfl, rfl, rfl⟩, rfl, j, m, hj, rfl, hD, hm, rfl, rfl, rfl⟩
  obtain ⟨⟨z9, r, c, N, n, cl, hRB, ⟨⟨rfl, rfl, rfl, rfl⟩, rfl, rfl, rfl, rfl⟩, hkk, hlg, hfg, hRL⟩, h02⟩ := hpre
  obtain ⟨g, hF, hC, hb, hs, hsc, hcl⟩ := id hRB
  have hN := (gN g).2
  have hbN := bv_le hN hb
  have em := gmN g
  rw [em] at hj
  have hk : mN (fg 0) (fg 1) - (j + 1) < N := by rw [em]; omega
  unfold vs_L_runs_50
  rw [show (10 : Int32) = nI 10 from rfl]
  refine ⟨fun c0 => ?_, fun c0 => ?_⟩
  · have c0 := k_le (by omega) (by omega) c0
    obtain rfl : m = 9 := by omega
    refine ⟨⟨⟨rfl, rfl, rfl, rfl, rfl, rfl⟩, j, 0, by rw [em]; exact hj, rfl, hD, Nat.zero_le _, rfl, rfl, rfl, false, rfl, fun z => absurd z (by decide), fun _ q hq => absurd hq (Nat.not_lt_zero _)⟩, ?_⟩
    show (nI (mN (fg 0) (fg 1) - (j + 1))).toNatClampNeg * 100 + 40 + (12 - (0 : Int32).toNatClampNeg) < (nI (mN (fg 0) (fg 1) - (j + 1))).toNatClampNeg * 100 + 60 + (12 - (nI (9 + 1)).toNatClampNeg)
    omega
  · have c0 := k_nle (by omega) (by omega) c0
    have hzx : zval bf ∧ zx2 (zac (fg 0) (fg 1)) (nI (mN (fg 0) (fg 1) - (j + 1))) (nI (m + 1)) = 0 := ⟨zval_FB hN hF, zx2_k g hk (by omega) c0⟩
    rw [zct_mft (hf := mlk (fg 0) (fg 1) fb (fun _ => 0)) g hF hbN hs hk (by omega) c0]
    have hJ : ∀ y8 y9 y11, y8 = (MON fg fb (nI (mN (fg 0) (fg 1) - (j + 1))) (m + 1)).2 → y9 = (MON fg fb (nI (mN (fg 0) (fg 1) - (j + 1))) (m + 1)).1 → y11 = nI (m + 1) + 1 →
        (I_L_runs_50 lgd (fg 1) (zac (fg 0) (fg 1)) (zfc (fg 1) r) (zlc (fg 1) (zfc (fg 1) r)) cf (fg 1) (zac (fg 0) (fg 1)) (zfc (fg 1) r) (zlc (fg 1) (zfc (fg 1) r)) bf lgf cnt call swf fnf fb fg fl p1 x5 x6 (nI (mN (fg 0) (fg 1) - (j + 1))) y8 y9 0 y11 bf lgf lgd cnt' call' swf' fb fg fl ∧ (nI (mN (fg 0) (fg 1) - (j + 1))).toNatClampNeg * 100 + 60 + (12 - y11.toNatClampNeg) < (nI (mN (fg 0) (fg 1) - (j + 1))).toNatClampNeg * 100 + 60 + (12 - (nI (m + 1)).toNatClampNeg)) := by
      intro y8 y9 y11 e8 e9 e11
      subst e11
      refine ⟨⟨⟨rfl, rfl, rfl, rfl, rfl, rfl⟩, rfl, j, m + 1, by rw [em]; exact hj, rfl, hD, by omega, nI_1 _, e8, e9⟩, ?_⟩
      rw [nI_1, nI_clamp (n := m + 1 + 1) (by omega), nI_clamp (n := m + 1) (by omega)]
      omega
    refine ⟨hzx, fun c1 => ?_, fun c1 => ?_⟩
    · rw [b2i_eq0] at c1
      have e : MON fg fb (nI (mN (fg 0) (fg 1) - (j + 1))) (m + 1) = MON fg fb (nI (mN (fg 0) (fg 1) - (j + 1))) m := by
        unfold MON
        rw [mon, c1]; rfl
      rintro y8 rfl
      refine ⟨hzx, fun _ => ?_, fun c2 => absurd (by rw [c1]; rfl) c2⟩
      intro y11 e11
      exact hJ _ _ _ (by rw [e, Int32.add_zero]) (by rw [e]) e11
    · rw [b2i_ne0] at c1
      have e : MON fg fb (nI (mN (fg 0) (fg 1) - (j + 1))) (m + 1) = (nI (m + 1), (MON fg fb (nI (mN (fg 0) (fg 1) - (j + 1))) m).2 + 1) := by
        unfold MON
        rw [mon, if_pos c1]
      rintro y8 rfl
      refine ⟨hzx, fun c2 => absurd c2 (by rw [c1]; decide), fun _ => ?_⟩
      intro y11 e11
      exact hJ _ _ _ (by rw [e]) (by rw [e]) e11
theorem pl_L_runs_107 (lgd : Int32) (ccc : Int32) (cac : Int32) (cfc : Int32) (clc : Int32) (cf : Nat → Int32) (bcc : Int32) (bac : Int32) (bfc : Int32) (blc : Int32) (bf : Nat → Int32) (lgf : Nat → Int32) (cnt : Int32) (call : Int32) (swf : Nat → Int32) (fnf : Nat → Int32) (fb : Nat → Int32) (fg : Nat → Int32) (fl : Nat → Int32) (p1 : Int32) (hpre : (∃ z, PI lgd ccc cac cfc clc cf bcc bac bfc blc bf lgf fb z fg fl) ∧ min3 p1 0 2 = true) : ∀ (x5 : Int32) (x6 : Int32) (x7 : Int32) (x8 : Int32) (x9 : Int32) (x10 : Int32) (x11 : Int32) (bf' : Nat → Int32) (lgf' : Nat → Int32) (lgd' : Int32) (cnt' : Int32) (call' : Int32) (swf' : Nat → Int32) (fb' : Nat → Int32) (fg' : Nat → Int32) (fl' : Nat → Int32), I_L_runs_107 lgd ccc cac cfc clc cf bcc bac bfc blc bf lgf cnt call swf fnf fb fg fl p1 x5 x6 x7 x8 x9 x10 x11 bf' lgf' lgd' cnt' call' swf' fb' fg' fl' → vs_L_runs_107 lgd ccc cac cfc clc cf bcc bac bfc blc bf lgf cnt call swf fnf fb fg fl p1 (fun (r : Int32) (u : (Nat → Int32) × (Nat → Int32) × Int32 × Int32 × Int32 × (Nat → Int32) × (Nat → Int32) × (Nat → Int32) × (Nat → Int32)) => r = 1 ∧ (∀ z, PI lgd ccc cac cfc clc cf bcc bac bfc blc bf lgf fb z fg fl → PI u.2.2.1 ccc cac cfc clc cf bcc bac bfc blc u.1 u.2.1 u.2.2.2.2.2.2.1 z u.2.2.2.2.2.2.2.1 u.2.2.2.2.2.2.2.2)) (fun (x59 : Int32) (x69 : Int32) (x79 : Int32) (bf9 : Nat → Int32) (lgf9 : Nat → Int32) (lgd9 : Int32) (cnt9 : Int32) (call9 : Int32) (swf9 : Nat → Int32) (fb9 : Nat → Int32) (fg9 : Nat → Int32) (fl9 : Nat → Int32) => I_L_runs_33 lgd ccc cac cfc clc cf bcc bac bfc blc bf lgf cnt call swf fnf fb fg fl p1 x59 x69 x79 bf9 lgf9 lgd9 cnt9 call9 swf9 fb9 fg9 fl9 ∧ mu_L_runs_33 lgd ccc cac cfc clc cf bcc bac bfc blc bf lgf cnt call swf fnf fb fg fl p1 x59 x69 x79 bf9 lgf9 lgd9 cnt9 call9 swf9 fb9 fg9 fl9 < mu_L_runs_107 lgd ccc cac cfc clc cf bcc bac bfc blc bf lgf cnt call swf fnf fb fg fl p1 x5 x6 x7 x8 x9 x10 x11 bf' lgf' lgd' cnt' call' swf' fb' fg' fl') (fun (x59 : Int32) (x69 : Int32) (x79 : Int32) (x89 : Int32) (x99 : Int32) (x109 : Int32) (x119 : Int32) (bf9 : Nat → Int32) (lgf9 : Nat → Int32) (lgd9 : Int32) (cnt9 : Int32) (call9 : Int32) (swf9 : Nat → Int32) (fb9 : Nat → Int32) (fg9 : Nat → Int32) (fl9 : Nat → Int32) => I_L_runs_50 lgd ccc cac cfc clc cf bcc bac bfc blc bf lgf cnt call swf fnf fb fg fl p1 x59 x69 x79 x89 x99 x109 x119 bf9 lgf9 lgd9 cnt9 call9 swf9 fb9 fg9 fl9 ∧ mu_L_runs_50 lgd ccc cac cfc clc cf bcc bac bfc blc bf lgf cnt call swf fnf fb fg fl p1 x59 x69 x79 x89 x99 x109 x119 bf9 lgf9 lgd9 cnt9 call9 swf9 fb9 fg9 fl9 < mu_L_runs_107 lgd ccc cac cfc clc cf bcc bac bfc blc bf lgf cnt call swf fnf fb fg fl p1 x5 x6 x7 x8 x9 x10 x11 bf' lgf' lgd' cnt' call' swf' fb' fg' fl') (fun (x59 : Int32) (x69 : Int32) (x79 : Int32) (x89 : Int32) (x99 : Int32) (x109 : Int32) (x119 : Int32) (bf9 : Nat → Int32) (lgf9 : Nat → Int32) (lgd9 : Int32) (cnt9 : Int32) (call9 : Int32) (swf9 : Nat → Int32) (fb9 : Nat → Int32) (fg9 : Nat → Int32) (fl9 : Nat → Int32) => I_L_runs_107 lgd ccc cac cfc clc cf bcc bac bfc blc bf lgf cnt call swf fnf fb fg fl p1 x59 x69 x79 x89 x99 x109 x119 bf9 lgf9 lgd9 cnt9 call9 swf9 fb9 fg9 fl9 ∧ mu_L_runs_107 lgd ccc cac cfc clc cf bcc bac bfc blc bf lgf cnt call swf fnf fb fg fl p1 x59 x69 x79 x89 x99 x109 x119 bf9 lgf9 lgd9 cnt9 call9 swf9 fb9 fg9 fl9 < mu_L_runs_107 lgd ccc cac cfc clc cf bcc bac bfc blc bf lgf cnt call swf fnf fb fg fl p1 x5 x6 x7 x8 x9 x10 x11 bf' lgf' lgd' cnt' call' swf' fb' fg' fl') (fun (x59 : Int32) (x69 : Int32) (x79 : Int32) (x89 : Int32) (x99 : Int32) (x109 : Int32) (x119 : Int32) (bf9 : Nat → Int32) (lgf9 : Nat → Int32) (lgd9 : Int32) (cnt9 : Int32) (call9 : Int32) (swf9 : Nat → Int32) (fb9 : Nat → Int32) (fg9 : Nat → Int32) (fl9 : Nat → Int32) => I_L_runs_230 lgd ccc cac cfc clc cf bcc bac bfc blc bf lgf cnt call swf fnf fb fg fl p1 x59 x69 x79 x89 x99 x109 x119 bf9 lgf9 lgd9 cnt9 call9 swf9 fb9 fg9 fl9 ∧ mu_L_runs_230 lgd ccc cac cfc clc cf bcc bac bfc blc bf lgf cnt call swf fnf fb fg fl p1 x59 x69 x79 x89 x99 x109 x119 bf9 lgf9 lgd9 cnt9 call9 swf9 fb9 fg9 fl9 < mu_L_runs_107 lgd ccc cac cfc clc cf bcc bac bfc blc bf lgf cnt call swf fnf fb fg fl p1 x5 x6 x7 x8 x9 x10 x11 bf' lgf' lgd' cnt' call' swf' fb' fg' fl') (I_L_runs_389 lgd ccc cac cfc clc cf bcc bac bfc blc bf lgf cnt call swf fnf fb fg fl p1) (I_L_runs_418 lgd ccc cac cfc clc cf bcc bac bfc blc bf lgf cnt call swf fnf fb fg fl p1) x5 x6 x7 x8 x9 x10 x11 bf' lgf' lgd' cnt' call' swf' fb' fg' fl' := by
  rintro x5 x6 x7 x8 x9 x10 x11 bf' lgf' lgd' cnt' call' swf' fb' fg' fl' ⟨⟨rfl, rfl, rfl, rfl, rfl, rfl⟩, j, i, hj, rfl, hD, hi, rfl, rfl, rfl, hE⟩
  obtain ⟨⟨z9, r, c, N, n, cl, hRB, ⟨⟨rfl, rfl, rfl, rfl⟩, rfl, rfl, rfl, rfl⟩, hkk, hlg, hfg, hRL⟩, h02⟩ := hpre
  obtain ⟨g, hF, hC, hb, hs, hsc, hcl⟩ := id hRB
  have hN := (gN g).2
  have hbN := bv_le hN hb
  have em := gmN g
  subst em
  have hk : mN (fg 0) (fg 1) - (j + 1) < mN (fg 0) (fg 1) := by omega
  unfold vs_L_runs_107
  rw [gmul g]
  refine ⟨fun c0 => ?_, fun c0 => ?_⟩
  · have c0 := k_le (by omega) (by omega) c0
    obtain rfl : i = mN (fg 0) (fg 1) := by omega
    have hJ : ∀ y5, LQ (fg 0) (fg 1) (mN (fg 0) (fg 1)) fb p1 y5 x6 j (mN (fg 0) (fg 1)) → ∀ y, y = nI (mN (fg 0) (fg 1)) - 1 →
        (I_L_runs_230 lgd (fg 1) (zac (fg 0) (fg 1)) (zfc (fg 1) r) (zlc (fg 1) (zfc (fg 1) r)) cf (fg 1) (zac (fg 0) (fg 1)) (zfc (fg 1) r) (zlc (fg 1) (zfc (fg 1) r)) bf lgf cnt call swf fnf fb fg fl p1 y5 x6 (nI (mN (fg 0) (fg 1) - (j + 1))) (MON fg fb (nI (mN (fg 0) (fg 1) - (j + 1))) 9).2 (MON fg fb (nI (mN (fg 0) (fg 1) - (j + 1))) 9).1 x10 y bf lgf lgd cnt' call' swf' fb fg fl ∧ (nI (mN (fg 0) (fg 1) - (j + 1))).toNatClampNeg * 100 + 20 + (y + 1).toNatClampNeg < (nI (mN (fg 0) (fg 1) - (j + 1))).toNatClampNeg * 100 + 40 + (12 - (nI (mN (fg 0) (fg 1))).toNatClampNeg)) := by
      intro y5 hL y ey
      subst ey
      refine ⟨⟨⟨rfl, rfl, rfl, rfl, rfl, rfl⟩, j, mN (fg 0) (fg 1), hj, rfl, Nat.le_refl _, rfl, hL⟩, ?_⟩
      rw [Int32.sub_add_cancel, nI_clamp (n := mN (fg 0) (fg 1)) (by omega)]
      omega
    have hst := MF_step (rw := fg 0) (co := fg 1) (N := mN (fg 0) (fg 1)) (bd := fb) (p := p1) (j := j)
    obtain ⟨b, eb, hE1, hE2⟩ := hE
    have h2 : p1 = 2 → (zxc (zac (fg 0) (fg 1)) (nI (mN (fg 0) (fg 1) - (j + 1))) = 0) ∧ (b2i (zhas (zhi (fg 1) (zac (fg 0) (fg 1)) (zfc (fg 1) r) (zlc (fg 1) (zfc (fg 1) r)) bf) (nI (mN (fg 0) (fg 1) - (j + 1)))) = 0 → LQ (fg 0) (fg 1) (mN (fg 0) (fg 1)) fb p1 x5 x6 j (mN (fg 0) (fg 1))) ∧ (¬ b2i (zhas (zhi (fg 1) (zac (fg 0) (fg 1)) (zfc (fg 1) r) (zlc (fg 1) (zfc (fg 1) r)) bf) (nI (mN (fg 0) (fg 1) - (j + 1)))) = 0 → (x10 = 0 → (zval bf ∧ zx2 (zac (fg 0) (fg 1)) (nI (mN (fg 0) (fg 1) - (j + 1))) 1 = 0) ∧ (b2i (zct (fg 1) (zac (fg 0) (fg 1)) (zfc (fg 1) r) (zlc (fg 1) (zfc (fg 1) r)) bf (nI (mN (fg 0) (fg 1) - (j + 1))) 1) = 0 → LQ (fg 0) (fg 1) (mN (fg 0) (fg 1)) fb p1 x5 x6 j (mN (fg 0) (fg 1))) ∧ (¬ b2i (zct (fg 1) (zac (fg 0) (fg 1)) (zfc (fg 1) r) (zlc (fg 1) (zfc (fg 1) r)) bf (nI (mN (fg 0) (fg 1) - (j + 1))) 1) = 0 → LQ (fg 0) (fg 1) (mN (fg 0) (fg 1)) fb p1 (10 * nI (mN (fg 0) (fg 1) - (j + 1)) + 1) x6 j (mN (fg 0) (fg 1)))) ∧ (¬ x10 = 0 → LQ (fg 0) (fg 1) (mN (fg 0) (fg 1)) fb p1 x5 x6 j (mN (fg 0) (fg 1)))) := by
      intro hp
      subst hp
      have hne : ¬ ((2 : Int32) = 1 ∧ x6 = 0) := fun z => absurd z.1 (by decide)
      have hmh := mhn_iff g hF hbN hs hk
      rw [mrun1_2] at hst
      have hoff : ¬ mhn (fg 0) (fg 1) fb (mlk (fg 0) (fg 1) fb (fun _ => 0)) (nI (mN (fg 0) (fg 1) - (j + 1))) = true → LQ (fg 0) (fg 1) (mN (fg 0) (fg 1)) fb 2 x5 x6 j (mN (fg 0) (fg 1)) := fun hz => LQ_same (by decide) (fun _ => by
        rw [hst, if_neg (fun q => absurd q.2 (by rw [if_neg hz]; decide))]
        exact hD hne)
      refine ⟨zxc_k g hk, fun c1 => hoff (fun z => ?_), fun c1 => ⟨fun c2 => ⟨⟨zval_FB hN hF, zx2_k g hk (m := 1) (by decide) (by decide)⟩, fun c3 => hoff (fun z => ?_), fun c3 => ?_⟩, fun c2 => hoff (fun z => ?_)⟩⟩
      · rw [(hmh.mp z).1] at c1; exact absurd c1 (by decide)
      · rw [(hmh.mp z).2.2] at c3; exact absurd c3 (by decide)
      · rw [b2i_ne0] at c1 c3
        rw [eb, b2i_eq0] at c2
        have hz : mhn (fg 0) (fg 1) fb (mlk (fg 0) (fg 1) fb (fun _ => 0)) (nI (mN (fg 0) (fg 1) - (j + 1))) = true := hmh.mpr ⟨c1, fun q hn => hE2 c2 q hn.1 ((lnx_nbr g hn.1 hk).mpr hn), c3⟩
        have h0 : fb (mN (fg 0) (fg 1) - (j + 1)) = 0 := ((hid_iff g hF hk).mp c1).1
        refine LQ_same (by decide) (fun _ => ?_)
        rw [hst, if_pos hz, if_pos ⟨h0, by decide⟩]
      · rw [eb, b2i_ne0] at c2
        obtain ⟨q, hq, hl, h0⟩ := hE1 c2
        exact (hmh.mp z).2.1 q ((lnx_nbr g hq hk).mp hl) h0
    refine ⟨fun c1 => ⟨fun c2 => ?_, fun c2 => ⟨fun c3 => ?_, fun _ => hJ _ ?_⟩⟩, fun c1 => ⟨fun c2 => ?_, fun c2 => hJ _ ?_⟩⟩
    · subst c1
      rintro y rfl
      refine hJ _ (LQ_same (by decide) (fun _ => ?_))
      obtain ⟨d1, d2, d3⟩ := due0a (by omega) c2
      rw [hst, if_pos ⟨d1, d2⟩, d3]; rfl
    · rw [c1] at c3; exact absurd c3 (by decide)
    · subst c1
      refine LQ_same (by decide) (fun hn => ?_)
      rw [hst, if_neg (fun q => due0b c2 q.2)]
      exact hD hn
    · obtain ⟨z1, z2, z3⟩ := h2 c2
      exact ⟨z1, fun c3 => hJ _ (z2 c3), fun c3 => ⟨fun c4 => ⟨((z3 c3).1 c4).1, fun c5 => hJ _ (((z3 c3).1 c4).2.1 c5), fun c5 y ey => by rw [ey]; exact hJ _ (((z3 c3).1 c4).2.2 c5)⟩, fun c4 => hJ _ ((z3 c3).2 c4)⟩⟩
    · rcases runc p1 with ⟨-, -, z | z | z⟩ | ⟨-, z⟩
      · exact absurd z c1
      · subst z; exact LQ_start1 hD
      · exact absurd z c2
      · rw [h02] at z; cases z
  · have hiN := k_nle (by omega) (by omega) c0
    have hJ : ∀ y10, EM fg fb (nI (mN (fg 0) (fg 1) - (j + 1))) y10 (i + 1) → ∀ y, y = nI i + 1 →
        (I_L_runs_107 lgd (fg 1) (zac (fg 0) (fg 1)) (zfc (fg 1) r) (zlc (fg 1) (zfc (fg 1) r)) cf (fg 1) (zac (fg 0) (fg 1)) (zfc (fg 1) r) (zlc (fg 1) (zfc (fg 1) r)) bf lgf cnt call swf fnf fb fg fl p1 x5 x6 (nI (mN (fg 0) (fg 1) - (j + 1))) (MON fg fb (nI (mN (fg 0) (fg 1) - (j + 1))) 9).2 (MON fg fb (nI (mN (fg 0) (fg 1) - (j + 1))) 9).1 y10 y bf lgf lgd cnt' call' swf' fb fg fl ∧ (nI (mN (fg 0) (fg 1) - (j + 1))).toNatClampNeg * 100 + 40 + (12 - y.toNatClampNeg) < (nI (mN (fg 0) (fg 1) - (j + 1))).toNatClampNeg * 100 + 40 + (12 - (nI i).toNatClampNeg)) := by
      intro y10 hE' y ey
      subst ey
      refine ⟨⟨⟨rfl, rfl, rfl, rfl, rfl, rfl⟩, j, i + 1, hj, rfl, hD, by omega, nI_1 i, rfl, rfl, hE'⟩, ?_⟩
      rw [nI_1, nI_clamp (n := i + 1) (by omega), nI_clamp (n := i) (by omega)]
      omega
    rw [nI_clamp (n := i) (by omega)]
    refine ⟨fun c1 => ⟨gco0 g, fun c2 => hJ _ ?_, fun c2 => ⟨vp_in_nI (by omega) (by decide), fun c3 => hJ _ ?_, fun c3 => hJ _ ?_⟩⟩, fun c1 => hJ _ (EM_keep hE c1)⟩
    · rw [b2i_eq0] at c2
      exact EM_no hE c1 (fun z => by rw [c2] at z; cases z)
    · rw [b2i_ne0] at c2
      exact EM_new c2 c3
    · exact EM_no hE c1 (fun _ => c3)
theorem pl_L_runs_230 (lgd : Int32) (ccc : Int32) (cac : Int32) (cfc : Int32) (clc : Int32) (cf : Nat → Int32) (bcc : Int32) (bac : Int32) (bfc : Int32) (blc : Int32) (bf : Nat → Int32) (lgf : Nat → Int32) (cnt : Int32) (call : Int32) (swf : Nat → Int32) (fnf : Nat → Int32) (fb : Nat → Int32) (fg : Nat → Int32) (fl : Nat → Int32) (p1 : Int32) (hpre : (∃ z, PI lgd ccc cac cfc clc cf bcc bac bfc blc bf lgf fb z fg fl) ∧ min3 p1 0 2 = true) : ∀ (x5 : Int32) (x6 : Int32) (x7 : Int32) (x8 : Int32) (x9 : Int32) (x10 : Int32) (x11 : Int32) (bf' : Nat → Int32) (lgf' : Nat → Int32) (lgd' : Int32) (cnt' : Int32) (call' : Int32) (swf' : Nat → Int32) (fb' : Nat → Int32) (fg' : Nat → Int32) (fl' : Nat → Int32), I_L_runs_230 lgd ccc cac cfc clc cf bcc bac bfc blc bf lgf cnt call swf fnf fb fg fl p1 x5 x6 x7 x8 x9 x10 x11 bf' lgf' lgd' cnt' call' swf' fb' fg' fl' → vs_L_runs_230 lgd ccc cac cfc clc cf bcc bac bfc blc bf lgf cnt call swf fnf fb fg fl p1 (fun (r : Int32) (u : (Nat → Int32) × (Nat → Int32) × Int32 × Int32 × Int32 × (Nat → Int32) × (Nat → Int32) × (Nat → Int32) × (Nat → Int32)) => r = 1 ∧ (∀ z, PI lgd ccc cac cfc clc cf bcc bac bfc blc bf lgf fb z fg fl → PI u.2.2.1 ccc cac cfc clc cf bcc bac bfc blc u.1 u.2.1 u.2.2.2.2.2.2.1 z u.2.2.2.2.2.2.2.1 u.2.2.2.2.2.2.2.2)) (fun (x59 : Int32) (x69 : Int32) (x79 : Int32) (bf9 : Nat → Int32) (lgf9 : Nat → Int32) (lgd9 : Int32) (cnt9 : Int32) (call9 : Int32) (swf9 : Nat → Int32) (fb9 : Nat → Int32) (fg9 : Nat → Int32) (fl9 : Nat → Int32) => I_L_runs_33 lgd ccc cac cfc clc cf bcc bac bfc blc bf lgf cnt call swf fnf fb fg fl p1 x59 x69 x79 bf9 lgf9 lgd9 cnt9 call9 swf9 fb9 fg9 fl9 ∧ mu_L_runs_33 lgd ccc cac cfc clc cf bcc bac bfc blc bf lgf cnt call swf fnf fb fg fl p1 x59 x69 x79 bf9 lgf9 lgd9 cnt9 call9 swf9 fb9 fg9 fl9 < mu_L_runs_230 lgd ccc cac cfc clc cf bcc bac bfc blc bf lgf cnt call swf fnf fb fg fl p1 x5 x6 x7 x8 x9 x10 x11 bf' lgf' lgd' cnt' call' swf' fb' fg' fl') (fun (x59 : Int32) (x69 : Int32) (x79 : Int32) (x89 : Int32) (x99 : Int32) (x109 : Int32) (x119 : Int32) (bf9 : Nat → Int32) (lgf9 : Nat → Int32) (lgd9 : Int32) (cnt9 : Int32) (call9 : Int32) (swf9 : Nat → Int32) (fb9 : Nat → Int32) (fg9 : Nat → Int32) (fl9 : Nat → Int32) => I_L_runs_50 lgd ccc cac cfc clc cf bcc bac bfc blc bf lgf cnt call swf fnf fb fg fl p1 x59 x69 x79 x89 x99 x109 x119 bf9 lgf9 lgd9 cnt9 call9 swf9 fb9 fg9 fl9 ∧ mu_L_runs_50 lgd ccc cac cfc clc cf bcc bac bfc blc bf lgf cnt call swf fnf fb fg fl p1 x59 x69 x79 x89 x99 x109 x119 bf9 lgf9 lgd9 cnt9 call9 swf9 fb9 fg9 fl9 < mu_L_runs_230 lgd ccc cac cfc clc cf bcc bac bfc blc bf lgf cnt call swf fnf fb fg fl p1 x5 x6 x7 x8 x9 x10 x11 bf' lgf' lgd' cnt' call' swf' fb' fg' fl') (fun (x59 : Int32) (x69 : Int32) (x79 : Int32) (x89 : Int32) (x99 : Int32) (x109 : Int32) (x119 : Int32) (bf9 : Nat → Int32) (lgf9 : Nat → Int32) (lgd9 : Int32) (cnt9 : Int32) (call9 : Int32) (swf9 : Nat → Int32) (fb9 : Nat → Int32) (fg9 : Nat → Int32) (fl9 : Nat → Int32) => I_L_runs_107 lgd ccc cac cfc clc cf bcc bac bfc blc bf lgf cnt call swf fnf fb fg fl p1 x59 x69 x79 x89 x99 x109 x119 bf9 lgf9 lgd9 cnt9 call9 swf9 fb9 fg9 fl9 ∧ mu_L_runs_107 lgd ccc cac cfc clc cf bcc bac bfc blc bf lgf cnt call swf fnf fb fg fl p1 x59 x69 x79 x89 x99 x109 x119 bf9 lgf9 lgd9 cnt9 call9 swf9 fb9 fg9 fl9 < mu_L_runs_230 lgd ccc cac cfc clc cf bcc bac bfc blc bf lgf cnt call swf fnf fb fg fl p1 x5 x6 x7 x8 x9 x10 x11 bf' lgf' lgd' cnt' call' swf' fb' fg' fl') (fun (x59 : Int32) (x69 : Int32) (x79 : Int32) (x89 : Int32) (x99 : Int32) (x109 : Int32) (x119 : Int32) (bf9 : Nat → Int32) (lgf9 : Nat → Int32) (lgd9 : Int32) (cnt9 : Int32) (call9 : Int32) (swf9 : Nat → Int32) (fb9 : Nat → Int32) (fg9 : Nat → Int32) (fl9 : Nat → Int32) => I_L_runs_230 lgd ccc cac cfc clc cf bcc bac bfc blc bf lgf cnt call swf fnf fb fg fl p1 x59 x69 x79 x89 x99 x109 x119 bf9 lgf9 lgd9 cnt9 call9 swf9 fb9 fg9 fl9 ∧ mu_L_runs_230 lgd ccc cac cfc clc cf bcc bac bfc blc bf lgf cnt call swf fnf fb fg fl p1 x59 x69 x79 x89 x99 x109 x119 bf9 lgf9 lgd9 cnt9 call9 swf9 fb9 fg9 fl9 < mu_L_runs_230 lgd ccc cac cfc clc cf bcc bac bfc blc bf lgf cnt call swf fnf fb fg fl p1 x5 x6 x7 x8 x9 x10 x11 bf' lgf' lgd' cnt' call' swf' fb' fg' fl') (I_L_runs_389 lgd ccc cac cfc clc cf bcc bac bfc blc bf lgf cnt call swf fnf fb fg fl p1) (I_L_runs_418 lgd ccc cac cfc clc cf bcc bac bfc blc bf lgf cnt call swf fnf fb fg fl p1) x5 x6 x7 x8 x9 x10 x11 bf' lgf' lgd' cnt' call' swf' fb' fg' fl' := by
  rintro x5 x6 x7 x8 x9 x10 x11 bf' lgf' lgd' cnt' call' swf' fb' fg' fl' ⟨⟨rfl, rfl, rfl, rfl, rfl, rfl⟩, j, t, hj, rfl, ht, rfl, hL⟩
  obtain ⟨⟨z9, r, c, N, n, cl, hRB, ⟨⟨rfl, rfl, rfl, rfl⟩, rfl, rfl, rfl, rfl⟩, hkk, hlg, hfg, hRL⟩, h02⟩ := hpre
  obtain ⟨g, hF, hC, hb, hs, hsc, hcl⟩ := id hRB
  have hN := (gN g).2
  have hbN := bv_le hN hb
  have em := gmN g
  subst em
  have hk : mN (fg 0) (fg 1) - (j + 1) < mN (fg 0) (fg 1) := by omega
  unfold vs_L_runs_230
  have hout : DU (fg 0) (fg 1) (mN (fg 0) (fg 1)) fb p1 x5 x6 (j + 1) → ∀ y, y = nI (mN (fg 0) (fg 1) - (j + 1)) + (-1) →
      (I_L_runs_33 lgd (fg 1) (zac (fg 0) (fg 1)) (zfc (fg 1) r) (zlc (fg 1) (zfc (fg 1) r)) cf (fg 1) (zac (fg 0) (fg 1)) (zfc (fg 1) r) (zlc (fg 1) (zfc (fg 1) r)) bf lgf cnt call swf fnf fb fg fl p1 x5 x6 y bf lgf lgd cnt' call' swf' fb fg fl ∧ (y + 1).toNatClampNeg * 100 < (nI (mN (fg 0) (fg 1) - (j + 1))).toNatClampNeg * 100 + 20 + (nI t - 1 + 1).toNatClampNeg) := by
    intro hD y ey
    subst ey
    rw [nI_m1']
    refine ⟨⟨⟨rfl, rfl, rfl, rfl, rfl, rfl⟩, j + 1, by omega, rfl, hD⟩, ?_⟩
    rw [Int32.sub_add_cancel]
    omega
  have hp1 : ¬ p1 = 1 → DU (fg 0) (fg 1) (mN (fg 0) (fg 1)) fb p1 x5 x6 (j + 1) := fun hp => LQ_out hL (fun z => hp z.1)
  refine ⟨fun c0 => hout ?_, fun c0 => ⟨fun c1 => ⟨fun c2 => hout (fun hn => absurd ⟨c1, c2⟩ hn), fun c2 => ⟨vp_in_nI (by omega) (by decide), fun c3 => ?_, fun c3 => hout ?_⟩⟩, fun c1 => hout (hp1 c1)⟩⟩
  · have h0 : t = 0 := by
      apply Classical.byContradiction
      intro hn
      obtain ⟨i, rfl⟩ : ∃ i, t = i + 1 := ⟨t - 1, by omega⟩
      rw [nI_pred] at c0
      exact nI_pos (by omega) c0
    subst h0
    exact LQ_end g hF hbN hs hj hL
  · obtain ⟨i, rfl⟩ : ∃ i, t = i + 1 := by
      refine ⟨t - 1, ?_⟩
      have : ¬ t = 0 := fun z => by rw [z] at c0; exact c0 nI_m0
      omega
    subst c1
    rw [nI_clamp (n := mN (fg 0) (fg 1) - (j + 1)) (by omega)] at c3
    have hi : i < mN (fg 0) (fg 1) := by omega
    have hvi : vp_in (nI i) 12 := vp_in_nI (by omega) (by decide)
    rw [nI_pred, nI_clamp (n := i) (by omega)]
    have hSH := (hL (fun z => c2 z.2)).1 rfl c3
    have hJ : ∀ y5 a1 a2 a3, SHP (fg 0) (fg 1) (mN (fg 0) (fg 1)) fb (mN (fg 0) (fg 1) - (j + 1)) i y5 (MFj (fg 0) (fg 1) (mN (fg 0) (fg 1)) fb 1 j) → ∀ y, y = nI i + (-1) →
        (I_L_runs_230 lgd (fg 1) (zac (fg 0) (fg 1)) (zfc (fg 1) r) (zlc (fg 1) (zfc (fg 1) r)) cf (fg 1) (zac (fg 0) (fg 1)) (zfc (fg 1) r) (zlc (fg 1) (zfc (fg 1) r)) bf lgf cnt call swf fnf fb fg fl 1 y5 x6 (nI (mN (fg 0) (fg 1) - (j + 1))) x8 x9 x10 y bf lgf lgd a1 a2 a3 fb fg fl ∧ (nI (mN (fg 0) (fg 1) - (j + 1))).toNatClampNeg * 100 + 20 + (y + 1).toNatClampNeg < (nI (mN (fg 0) (fg 1) - (j + 1))).toNatClampNeg * 100 + 20 + (nI i + 1).toNatClampNeg) := by
      intro y5 a1 a2 a3 hS y ey
      subst ey
      rw [nI_m1']
      refine ⟨⟨⟨rfl, rfl, rfl, rfl, rfl, rfl⟩, j, i, hj, rfl, by omega, rfl, fun _ => ⟨fun _ _ => hS, fun z => absurd ⟨rfl, c3⟩ z⟩⟩, ?_⟩
      rw [Int32.sub_add_cancel, nI_1, nI_clamp (n := i) (by omega), nI_clamp (n := i + 1) (by omega)]
      omega
    have hmu : ∀ x y5 a1 a2 a3, mu_L_runs_230 lgd (fg 1) (zac (fg 0) (fg 1)) (zfc (fg 1) r) (zlc (fg 1) (zfc (fg 1) r)) cf (fg 1) (zac (fg 0) (fg 1)) (zfc (fg 1) r) (zlc (fg 1) (zfc (fg 1) r)) bf lgf cnt call swf fnf fb fg fl 1 y5 x6 (nI (mN (fg 0) (fg 1) - (j + 1))) x8 x9 x10 x bf lgf lgd a1 a2 a3 fb fg fl = (nI (mN (fg 0) (fg 1) - (j + 1))).toNatClampNeg * 100 + 20 + (x + 1).toNatClampNeg := fun _ _ _ _ _ => rfl
    rw [zsz g hF hbN hi]
    have hno : ¬ frw (fg 0) (fg 1) fb (fun _ => 0) i (mN (fg 0) (fg 1) - (j + 1)) → SHP (fg 0) (fg 1) (mN (fg 0) (fg 1)) fb (mN (fg 0) (fg 1) - (j + 1)) i x5 (MFj (fg 0) (fg 1) (mN (fg 0) (fg 1)) fb 1 j) := fun z => SH_no hSH z
    refine ⟨hvi, fun c4 => hJ _ _ _ _ (hno (fun z => (frw_sz g hF hbN hs hi hk c3 z).1 c4)), fun c4 => ⟨zxc_k g hi, hvi, fun c5 => hJ _ _ _ _ (hno (fun z => (frw_sz g hF hbN hs hi hk c3 z).2 c5)), fun c5 => ?_⟩⟩
    obtain ⟨v, h1, hv, ev⟩ : ∃ v, 1 ≤ v ∧ v < 10 ∧ fb i = nI v := by
      rcases val_or hbN hi with e | e
      · rw [e] at c4; exact absurd (by decide) c4
      · exact e
    rw [ev]
    refine ⟨hvi, ⟨zval_FB hN hF, zx2_k g hk h1 hv⟩, fun c6 => hJ _ _ _ _ (hno (fun z => ?_)), fun c6 => ⟨zxc_k g hi, fun a1 a2 a3 => ⟨fun c7 => hJ _ _ _ _ (hno (fun z => ?_)), fun c7 => ⟨zxc2_k g hi hk, fun b1 b2 b3 => ⟨zxc_k g hi, fun d1 d2 d3 => ⟨fun c8 => ⟨hvi, ?_⟩, fun c8 => hJ _ _ _ _ (hno (fun z => ?_))⟩⟩⟩⟩⟩⟩
    · rw [((frw_iff g hF hbN hs hi hk h1 hv ev (fun _ => 0) (fun _ => 0) (fun _ => 0)).mp z).1] at c6
      exact absurd c6 (by decide)
    · exact absurd c7 (Int32.not_le.mpr ((frw_iff g hF hbN hs hi hk h1 hv ev swf' (fun _ => 0) (fun _ => 0)).mp z).2.1)
    · rw [b2i_ne0] at c6
      have hw := (frw_iff g hF hbN hs hi hk h1 hv ev swf' a3 b3).mpr ⟨c6, Int32.not_le.mp c7, c8⟩
      rintro y5 rfl
      refine hJ _ _ _ _ ?_
      have := SH_yes (d := MFj (fg 0) (fg 1) (mN (fg 0) (fg 1)) fb 1 j) hi hw
      rw [ev] at this
      exact this
    · exact c8 ((frw_iff g hF hbN hs hi hk h1 hv ev swf' a3 b3).mp z).2.2
  · rw [nI_clamp (n := mN (fg 0) (fg 1) - (j + 1)) (by omega)] at c3
    exact LQ_out hL (fun z => c3 z.2)
theorem pl_L_runs_389 (lgd : Int32) (ccc : Int32) (cac : Int32) (cfc : Int32) (clc : Int32) (cf : Nat → Int32) (bcc : Int32) (bac : Int32) (bfc : Int32) (blc : Int32) (bf : Nat → Int32) (lgf : Nat → Int32) (cnt : Int32) (call : Int32) (swf : Nat → Int32) (fnf : Nat → Int32) (fb : Nat → Int32) (fg : Nat → Int32) (fl : Nat → Int32) (p1 : Int32) (hpre : (∃ z, PI lgd ccc cac cfc clc cf bcc bac bfc blc bf lgf fb z fg fl) ∧ min3 p1 0 2 = true) : ∀ (x5 : Int32) (x6 : Int32) (x7 : Int32) (bf' : Nat → Int32) (lgf' : Nat → Int32) (lgd' : Int32) (cnt' : Int32) (call' : Int32) (swf' : Nat → Int32) (fb' : Nat → Int32) (fg' : Nat → Int32) (fl' : Nat → Int32), I_L_runs_389 lgd ccc cac cfc clc cf bcc bac bfc blc bf lgf cnt call swf fnf fb fg fl p1 x5 x6 x7 bf' lgf' lgd' cnt' call' swf' fb' fg' fl' → vs_L_runs_389 lgd ccc cac cfc clc cf bcc bac bfc blc bf lgf cnt call swf fnf fb fg fl p1 (fun (r : Int32) (u : (Nat → Int32) × (Nat → Int32) × Int32 × Int32 × Int32 × (Nat → Int32) × (Nat → Int32) × (Nat → Int32) × (Nat → Int32)) => r = 1 ∧ (∀ z, PI lgd ccc cac cfc clc cf bcc bac bfc blc bf lgf fb z fg fl → PI u.2.2.1 ccc cac cfc clc cf bcc bac bfc blc u.1 u.2.1 u.2.2.2.2.2.2.1 z u.2.2.2.2.2.2.2.1 u.2.2.2.2.2.2.2.2)) (I_L_runs_33 lgd ccc cac cfc clc cf bcc bac bfc blc bf lgf cnt call swf fnf fb fg fl p1) (I_L_runs_50 lgd ccc cac cfc clc cf bcc bac bfc blc bf lgf cnt call swf fnf fb fg fl p1) (I_L_runs_107 lgd ccc cac cfc clc cf bcc bac bfc blc bf lgf cnt call swf fnf fb fg fl p1) (I_L_runs_230 lgd ccc cac cfc clc cf bcc bac bfc blc bf lgf cnt call swf fnf fb fg fl p1) (fun (x59 : Int32) (x69 : Int32) (x79 : Int32) (bf9 : Nat → Int32) (lgf9 : Nat → Int32) (lgd9 : Int32) (cnt9 : Int32) (call9 : Int32) (swf9 : Nat → Int32) (fb9 : Nat → Int32) (fg9 : Nat → Int32) (fl9 : Nat → Int32) => I_L_runs_389 lgd ccc cac cfc clc cf bcc bac bfc blc bf lgf cnt call swf fnf fb fg fl p1 x59 x69 x79 bf9 lgf9 lgd9 cnt9 call9 swf9 fb9 fg9 fl9 ∧ mu_L_runs_389 lgd ccc cac cfc clc cf bcc bac bfc blc bf lgf cnt call swf fnf fb fg fl p1 x59 x69 x79 bf9 lgf9 lgd9 cnt9 call9 swf9 fb9 fg9 fl9 < mu_L_runs_389 lgd ccc cac cfc clc cf bcc bac bfc blc bf lgf cnt call swf fnf fb fg fl p1 x5 x6 x7 bf' lgf' lgd' cnt' call' swf' fb' fg' fl') (I_L_runs_418 lgd ccc cac cfc clc cf bcc bac bfc blc bf lgf cnt call swf fnf fb fg fl p1) x5 x6 x7 bf' lgf' lgd' cnt' call' swf' fb' fg' fl' := by
  rintro x5 x6 x7 bf' lgf' lgd' cnt' call' swf' fb' fg' fl' ⟨⟨rfl, rfl, rfl, rfl, rfl, rfl⟩, hD, h7⟩
  obtain ⟨⟨z9, r, c, N, n, cl, hRB, ⟨⟨rfl, rfl, rfl, rfl⟩, rfl, rfl, rfl, rfl⟩, hkk, hlg, hfg, hRL⟩, h02⟩ := hpre
  obtain ⟨g, hF, hC, hb, hs, hsc, hcl⟩ := id hRB
  have hN := (gN g).2
  have hbN := bv_le hN hb
  have em := gmN g
  have hp : zxr p1 = 0 ∧ (p1 = 0 ∨ p1 = 1 ∨ p1 = 2) := by
    rcases runc p1 with ⟨a, -, b⟩ | ⟨-, b⟩
    · exact ⟨a, b⟩
    · rw [h02] at b; cases b
  have hz := zrun_eq (hf := fun _ => 0) g hF hbN hs hp.2
  unfold vs_L_runs_389
  rw [hz]
  refine ⟨⟨zval_FB hN hF, zN_ok g, hp.1⟩, fun a1 a2 a3 => ?_⟩
  rintro y ey
  have e8 : y = MFj (fg 0) (fg 1) (mN (fg 0) (fg 1)) fb p1 (mN (fg 0) (fg 1)) := by rw [ey, em]; rfl
  cases ho : mrunF (fg 0) (fg 1) fb (mlk (fg 0) (fg 1) fb (fun _ => 0)) p1 N N with
  | none =>
    rw [ho] at ey
    have hy : y = -1 := ey
    subst hy
    have e1 : ¬ (¬ (enc none = -1) ∧ zlg lgd = true) := fun z => z.1 rfl
    rw [if_neg e1, if_neg e1, if_neg e1]
    exact ⟨fun _ => ⟨hD, h7, e8, zval_FB hN hF, rfl, fun z hz => hz⟩, fun c0 => absurd (by decide) c0⟩
  | some q =>
    obtain ⟨v, h1, hv, e2, hk, h0, hm, -⟩ := run_sol g hF hbN hs hp.2 ho
    obtain ⟨q1, q2⟩ := q
    dsimp only at e2 hk h0 hm
    subst e2
    obtain ⟨d1, d2, d3⟩ := enc_all q1 (by omega) v hv
    rw [ho] at ey
    have hn := RL_lt g hF hRL hk h0
    have hzl : zlg lgd = true := by rw [hlg]; exact zlg_nI (by omega)
    have e1 : ¬ (enc (some (q1, nI v)) = -1) ∧ zlg lgd = true := ⟨d3, hzl⟩
    rw [if_pos e1, if_pos e1, if_pos e1, d1, d2]
    subst ey
    have d4 : enc (some (q1, nI v)) - enc (some (q1, nI v)) / 10 * 10 = nI v := d2
    rw [d4, d1, hfg, hlg, nI_clamp (n := q1) (by omega), nI_clamp (n := n) (by omega)]
    obtain ⟨f1, f2⟩ := fill_step hRB hRL hk h1 hv hm
    refine ⟨fun c0 => ?_, fun _ => ⟨⟨vp_in_nI (by omega) (by decide), vp_in_nI (by omega) (by decide)⟩, hD, h7, e8, zval_FB hN f1.2.1, ?_, fun z hz => ?_⟩⟩
    · exfalso
      have : ∀ k, k < 12 → ∀ v, v < 10 → ¬ enc (some (k, nI v)) < 0 := by decide +kernel
      exact this q1 (by omega) v hv c0
    · exact run_keep (hf := fun _ => 0) g hF hbN hs hp.2 ho f1.2.1 f1.2.2.2.2.1 5
    · obtain ⟨r', c', N', n', cl', hRB', ⟨⟨-, -, w3, w4⟩, -, -, w7, w8⟩, hkk', hlg', hfg', hRL'⟩ := hz
      have eN : N' = N := (gmN hRB'.1).symm.trans em
      subst eN
      have er : r' = r := (gr hRB'.1).symm.trans (gr g)
      subst er
      have en : n' = n := by
        have h1 := RL_lt hRB'.1 hRB'.2.1 hRL' hk h0
        have h2 := hRB'.1
        exact nI_inj (by have := (gN h2).2; omega) (by omega) hlg'.symm
      subst en
      obtain ⟨f1', f2'⟩ := fill_step hRB' hRL' hk h1 hv hm
      exact ⟨r', c', N', n' + 1, cl', f1', ⟨⟨rfl, rfl, rfl, rfl⟩, rfl, rfl, rfl, rfl⟩, hkk', nI_1 _, nI_1 _, f2'⟩
theorem pl_L_runs_418 (lgd : Int32) (ccc : Int32) (cac : Int32) (cfc : Int32) (clc : Int32) (cf : Nat → Int32) (bcc : Int32) (bac : Int32) (bfc : Int32) (blc : Int32) (bf : Nat → Int32) (lgf : Nat → Int32) (cnt : Int32) (call : Int32) (swf : Nat → Int32) (fnf : Nat → Int32) (fb : Nat → Int32) (fg : Nat → Int32) (fl : Nat → Int32) (p1 : Int32) (hpre : (∃ z, PI lgd ccc cac cfc clc cf bcc bac bfc blc bf lgf fb z fg fl) ∧ min3 p1 0 2 = true) : ∀ (x5 : Int32) (x6 : Int32) (x7 : Int32) (x8 : Int32) (bf' : Nat → Int32) (lgf' : Nat → Int32) (lgd' : Int32) (cnt' : Int32) (call' : Int32) (swf' : Nat → Int32) (fb' : Nat → Int32) (fg' : Nat → Int32) (fl' : Nat → Int32), I_L_runs_418 lgd ccc cac cfc clc cf bcc bac bfc blc bf lgf cnt call swf fnf fb fg fl p1 x5 x6 x7 x8 bf' lgf' lgd' cnt' call' swf' fb' fg' fl' → vs_L_runs_418 lgd ccc cac cfc clc cf bcc bac bfc blc bf lgf cnt call swf fnf fb fg fl p1 (fun (r : Int32) (u : (Nat → Int32) × (Nat → Int32) × Int32 × Int32 × Int32 × (Nat → Int32) × (Nat → Int32) × (Nat → Int32) × (Nat → Int32)) => r = 1 ∧ (∀ z, PI lgd ccc cac cfc clc cf bcc bac bfc blc bf lgf fb z fg fl → PI u.2.2.1 ccc cac cfc clc cf bcc bac bfc blc u.1 u.2.1 u.2.2.2.2.2.2.1 z u.2.2.2.2.2.2.2.1 u.2.2.2.2.2.2.2.2)) (I_L_runs_33 lgd ccc cac cfc clc cf bcc bac bfc blc bf lgf cnt call swf fnf fb fg fl p1) (I_L_runs_50 lgd ccc cac cfc clc cf bcc bac bfc blc bf lgf cnt call swf fnf fb fg fl p1) (I_L_runs_107 lgd ccc cac cfc clc cf bcc bac bfc blc bf lgf cnt call swf fnf fb fg fl p1) (I_L_runs_230 lgd ccc cac cfc clc cf bcc bac bfc blc bf lgf cnt call swf fnf fb fg fl p1) (I_L_runs_389 lgd ccc cac cfc clc cf bcc bac bfc blc bf lgf cnt call swf fnf fb fg fl p1) (fun (x59 : Int32) (x69 : Int32) (x79 : Int32) (x89 : Int32) (bf9 : Nat → Int32) (lgf9 : Nat → Int32) (lgd9 : Int32) (cnt9 : Int32) (call9 : Int32) (swf9 : Nat → Int32) (fb9 : Nat → Int32) (fg9 : Nat → Int32) (fl9 : Nat → Int32) => I_L_runs_418 lgd ccc cac cfc clc cf bcc bac bfc blc bf lgf cnt call swf fnf fb fg fl p1 x59 x69 x79 x89 bf9 lgf9 lgd9 cnt9 call9 swf9 fb9 fg9 fl9 ∧ mu_L_runs_418 lgd ccc cac cfc clc cf bcc bac bfc blc bf lgf cnt call swf fnf fb fg fl p1 x59 x69 x79 x89 bf9 lgf9 lgd9 cnt9 call9 swf9 fb9 fg9 fl9 < mu_L_runs_418 lgd ccc cac cfc clc cf bcc bac bfc blc bf lgf cnt call swf fnf fb fg fl p1 x5 x6 x7 x8 bf' lgf' lgd' cnt' call' swf' fb' fg' fl') x5 x6 x7 x8 bf' lgf' lgd' cnt' call' swf' fb' fg' fl' := by
  rintro x5 x6 x7 x8 bf' lgf' lgd' cnt' call' swf' fb' fg' fl' ⟨hD, h7, rfl, hv, hz, hPI⟩
  obtain ⟨⟨z9, r, c, N, n, cl, hRB, ⟨⟨rfl, rfl, rfl, rfl⟩, rfl, rfl, rfl, rfl⟩, hkk, hlg, hfg, hRL⟩, h02⟩ := hpre
  have g := hRB.1
  unfold vs_L_runs_418
  have hfin : ¬ x7 < 0 → zcs (fg 1) (zac (fg 0) (fg 1)) (zfc (fg 1) r) (zlc (fg 1) (zfc (fg 1) r)) bf' 0 5 = x7 := fun h => by
    rcases h7 with e | e
    · rw [e] at h; exact absurd (by decide) h
    · rw [e]; exact hz
  refine ⟨fun _ => ⟨fun _ => ⟨rfl, hPI⟩, fun c1 => ⟨⟨hv, zN_ok g, by decide⟩, fun _ => ⟨rfl, hPI⟩, fun c2 => absurd (hfin c1) c2⟩⟩, fun c0 => ⟨fun c1 => ⟨fun c2 => ⟨fun _ => ⟨rfl, hPI⟩, fun c3 => ⟨⟨hv, zN_ok g, by decide⟩, fun _ => ⟨rfl, hPI⟩, fun c4 => absurd (hfin c3) c4⟩⟩, fun c2 => absurd (hD (fun z => c2 z.2)).symm c0⟩, fun c1 => absurd (hD (fun z => c1 z.1)).symm c0⟩⟩
theorem pe_L_runs (lgd : Int32) (ccc : Int32) (cac : Int32) (cfc : Int32) (clc : Int32) (cf : Nat → Int32) (bcc : Int32) (bac : Int32) (bfc : Int32) (blc : Int32) (bf : Nat → Int32) (lgf : Nat → Int32) (cnt : Int32) (call : Int32) (swf : Nat → Int32) (fnf : Nat → Int32) (fb : Nat → Int32) (fg : Nat → Int32) (fl : Nat → Int32) (p1 : Int32) (hpre : (∃ z, PI lgd ccc cac cfc clc cf bcc bac bfc blc bf lgf fb z fg fl) ∧ min3 p1 0 2 = true) : ve_L_runs lgd ccc cac cfc clc cf bcc bac bfc blc bf lgf cnt call swf fnf fb fg fl p1 (fun (r : Int32) (u : (Nat → Int32) × (Nat → Int32) × Int32 × Int32 × Int32 × (Nat → Int32) × (Nat → Int32) × (Nat → Int32) × (Nat → Int32)) => r = 1 ∧ (∀ z, PI lgd ccc cac cfc clc cf bcc bac bfc blc bf lgf fb z fg fl → PI u.2.2.1 ccc cac cfc clc cf bcc bac bfc blc u.1 u.2.1 u.2.2.2.2.2.2.1 z u.2.2.2.2.2.2.2.1 u.2.2.2.2.2.2.2.2)) (I_L_runs_33 lgd ccc cac cfc clc cf bcc bac bfc blc bf lgf cnt call swf fnf fb fg fl p1) (I_L_runs_50 lgd ccc cac cfc clc cf bcc bac bfc blc bf lgf cnt call swf fnf fb fg fl p1) (I_L_runs_107 lgd ccc cac cfc clc cf bcc bac bfc blc bf lgf cnt call swf fnf fb fg fl p1) (I_L_runs_230 lgd ccc cac cfc clc cf bcc bac bfc blc bf lgf cnt call swf fnf fb fg fl p1) (I_L_runs_389 lgd ccc cac cfc clc cf bcc bac bfc blc bf lgf cnt call swf fnf fb fg fl p1) (I_L_runs_418 lgd ccc cac cfc clc cf bcc bac bfc blc bf lgf cnt call swf fnf fb fg fl p1) := by
  obtain ⟨⟨z9, r, c, N, n, cl, hRB, ⟨⟨rfl, rfl, rfl, rfl⟩, rfl, rfl, rfl, rfl⟩, hkk, hlg, hfg, hRL⟩, h02⟩ := hpre
  have g := hRB.1
  have em := gmN g
  unfold ve_L_runs
  rw [gmul g]
  refine ⟨fun _ => ?_, fun _ => ?_⟩ <;> rintro y rfl <;> exact ⟨⟨rfl, rfl, rfl, rfl, rfl, rfl⟩, 0, Nat.zero_le _, by rw [em]; rfl, fun _ => rfl⟩
