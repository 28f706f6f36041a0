set_option maxHeartbeats 4000000 in
set_option maxRecDepth 100000 in
theorem a_L_runs (l : Launch) (D : va_G) (cI : ClassId) (xh ch ca bh ba lg sh sa vh va qb qg ql : Nat) (sz : Nat) (lgd : Int32) (ccc : Int32) (cac : Int32) (cfc : Int32) (clc : Int32) (cf : Nat → Int32) (bcc : Int32) (bac : Int32) (bfc : Int32) (blc : Int32) (bf : Nat → Int32) (lgf : Nat → Int32) (cnt : Int32) (call : Int32) (swf : Nat → Int32) (fnf : Nat → Int32) (fb : Nat → Int32) (fg : Nat → Int32) (fl : Nat → Int32) (p1 : Int32) (P : Int32 → ((Nat → Int32) × (Nat → Int32) × Int32 × Int32 × Int32 × (Nat → Int32) × (Nat → Int32) × (Nat → Int32) × (Nat → Int32)) → Prop) (I33 : Int32 → Int32 → Int32 → (Nat → Int32) → (Nat → Int32) → Int32 → Int32 → Int32 → (Nat → Int32) → (Nat → Int32) → (Nat → Int32) → (Nat → Int32) → Prop) (mu33 : Int32 → Int32 → Int32 → (Nat → Int32) → (Nat → Int32) → Int32 → Int32 → Int32 → (Nat → Int32) → (Nat → Int32) → (Nat → Int32) → (Nat → Int32) → Nat) (I50 : Int32 → Int32 → Int32 → Int32 → Int32 → Int32 → Int32 → (Nat → Int32) → (Nat → Int32) → Int32 → Int32 → Int32 → (Nat → Int32) → (Nat → Int32) → (Nat → Int32) → (Nat → Int32) → Prop) (mu50 : Int32 → Int32 → Int32 → Int32 → Int32 → Int32 → Int32 → (Nat → Int32) → (Nat → Int32) → Int32 → Int32 → Int32 → (Nat → Int32) → (Nat → Int32) → (Nat → Int32) → (Nat → Int32) → Nat) (I107 : Int32 → Int32 → Int32 → Int32 → Int32 → Int32 → Int32 → (Nat → Int32) → (Nat → Int32) → Int32 → Int32 → Int32 → (Nat → Int32) → (Nat → Int32) → (Nat → Int32) → (Nat → Int32) → Prop) (mu107 : Int32 → Int32 → Int32 → Int32 → Int32 → Int32 → Int32 → (Nat → Int32) → (Nat → Int32) → Int32 → Int32 → Int32 → (Nat → Int32) → (Nat → Int32) → (Nat → Int32) → (Nat → Int32) → Nat) (I230 : Int32 → Int32 → Int32 → Int32 → Int32 → Int32 → Int32 → (Nat → Int32) → (Nat → Int32) → Int32 → Int32 → Int32 → (Nat → Int32) → (Nat → Int32) → (Nat → Int32) → (Nat → Int32) → Prop) (mu230 : Int32 → Int32 → Int32 → Int32 → Int32 → Int32 → Int32 → (Nat → Int32) → (Nat → Int32) → Int32 → Int32 → Int32 → (Nat → Int32) → (Nat → Int32) → (Nat → Int32) → (Nat → Int32) → Nat) (I389 : Int32 → Int32 → Int32 → (Nat → Int32) → (Nat → Int32) → Int32 → Int32 → Int32 → (Nat → Int32) → (Nat → Int32) → (Nat → Int32) → (Nat → Int32) → Prop) (mu389 : Int32 → Int32 → Int32 → (Nat → Int32) → (Nat → Int32) → Int32 → Int32 → Int32 → (Nat → Int32) → (Nat → Int32) → (Nat → Int32) → (Nat → Int32) → Nat) (I418 : Int32 → Int32 → Int32 → Int32 → (Nat → Int32) → (Nat → Int32) → Int32 → Int32 → Int32 → (Nat → Int32) → (Nat → Int32) → (Nat → Int32) → (Nat → Int32) → Prop) (mu418 : Int32 → Int32 → Int32 → Int32 → (Nat → Int32) → (Nat → Int32) → Int32 → Int32 → Int32 → (Nat → Int32) → (Nat → Int32) → (Nat → Int32) → (Nat → Int32) → Nat) (hv33 : ∀ (x5 : Int32) (x6 : Int32) (x7 : Int32) (bf' : Nat → Int32) (lgf' : Nat → Int32) (lgd' : Int32) (cnt' : Int32) (call' : Int32) (swf' : Nat → Int32) (fb' : Nat → Int32) (fg' : Nat → Int32) (fl' : Nat → Int32), I33 x5 x6 x7 bf' lgf' lgd' cnt' call' swf' fb' fg' fl' → vs_L_runs_33 lgd ccc cac cfc clc cf bcc bac bfc blc bf lgf cnt call swf fnf fb fg fl p1 P (fun (x59 : Int32) (x69 : Int32) (x79 : Int32) (bf9 : Nat → Int32) (lgf9 : Nat → Int32) (lgd9 : Int32) (cnt9 : Int32) (call9 : Int32) (swf9 : Nat → Int32) (fb9 : Nat → Int32) (fg9 : Nat → Int32) (fl9 : Nat → Int32) => I33 x59 x69 x79 bf9 lgf9 lgd9 cnt9 call9 swf9 fb9 fg9 fl9 ∧ mu33 x59 x69 x79 bf9 lgf9 lgd9 cnt9 call9 swf9 fb9 fg9 fl9 < mu33 x5 x6 x7 bf' lgf' lgd' cnt' call' swf' fb' fg' fl') (fun (x59 : Int32) (x69 : Int32) (x79 : Int32) (x89 : Int32) (x99 : Int32) (x109 : Int32) (x119 : Int32) (bf9 : Nat → Int32) (lgf9 : Nat → Int32) (lgd9 : Int32) (cnt9 : Int32) (call9 : Int32) (swf9 : Nat → Int32) (fb9 : Nat → Int32) (fg9 : Nat → Int32) (fl9 : Nat → Int32) => I50 x59 x69 x79 x89 x99 x109 x119 bf9 lgf9 lgd9 cnt9 call9 swf9 fb9 fg9 fl9 ∧ mu50 x59 x69 x79 x89 x99 x109 x119 bf9 lgf9 lgd9 cnt9 call9 swf9 fb9 fg9 fl9 < mu33 x5 x6 x7 bf' lgf' lgd' cnt' call' swf' fb' fg' fl') (fun (x59 : Int32) (x69 : Int32) (x79 : Int32) (x89 : Int32) (x99 : Int32) (x109 : Int32) (x119 : Int32) (bf9 : Nat → Int32) (lgf9 : Nat → Int32) (lgd9 : Int32) (cnt9 : Int32) (call9 : Int32) (swf9 : Nat → Int32) (fb9 : Nat → Int32) (fg9 : Nat → Int32) (fl9 : Nat → Int32) => I107 x59 x69 x79 x89 x99 x109 x119 bf9 lgf9 lgd9 cnt9 call9 swf9 fb9 fg9 fl9 ∧ mu107 x59 x69 x79 x89 x99 x109 x119 bf9 lgf9 lgd9 cnt9 call9 swf9 fb9 fg9 fl9 < mu33 x5 x6 x7 bf' lgf' lgd' cnt' call' swf' fb' fg' fl') (fun (x59 : Int32) (x69 : Int32) (x79 : Int32) (x89 : Int32) (x99 : Int32) (x109 : Int32) (x119 : Int32) (bf9 : Nat → Int32) (lgf9 : Nat → Int32) (lgd9 : Int32) (cnt9 : Int32) (call9 : Int32) (swf9 : Nat → Int32) (fb9 : Nat → Int32) (fg9 : Nat → Int32) (fl9 : Nat → Int32) => I230 x59 x69 x79 x89 x99 x109 x119 bf9 lgf9 lgd9 cnt9 call9 swf9 fb9 fg9 fl9 ∧ mu230 x59 x69 x79 x89 x99 x109 x119 bf9 lgf9 lgd9 cnt9 call9 swf9 fb9 fg9 fl9 < mu33 x5 x6 x7 bf' lgf' lgd' cnt' call' swf' fb' fg' fl') I389 I418 x5 x6 x7 bf' lgf' lgd' cnt' call' swf' fb' fg' fl') (hv50 : ∀ (x5 : Int32) (x6 : Int32) (x7 : Int32) (x8 : Int32) (x9 : Int32) (x10 : Int32) (x11 : Int32) (bf' : Nat → Int32) (lgf' : Nat → Int32) (lgd' : Int32) (cnt' : Int32) (call' : Int32) (swf' : Nat → Int32) (fb' : Nat → Int32) (fg' : Nat → Int32) (fl' : Nat → Int32), I50 x5 x6 x7 x8 x9 x10 x11 bf' lgf' lgd' cnt' call' swf' fb' fg' fl' → vs_L_runs_50 lgd ccc cac cfc clc cf bcc bac bfc blc bf lgf cnt call swf fnf fb fg fl p1 P (fun (x59 : Int32) (x69 : Int32) (x79 : Int32) (bf9 : Nat → Int32) (lgf9 : Nat → Int32) (lgd9 : Int32) (cnt9 : Int32) (call9 : Int32) (swf9 : Nat → Int32) (fb9 : Nat → Int32) (fg9 : Nat → Int32) (fl9 : Nat → Int32) => I33 x59 x69 x79 bf9 lgf9 lgd9 cnt9 call9 swf9 fb9 fg9 fl9 ∧ mu33 x59 x69 x79 bf9 lgf9 lgd9 cnt9 call9 swf9 fb9 fg9 fl9 < mu50 x5 x6 x7 x8 x9 x10 x11 bf' lgf' lgd' cnt' call' swf' fb' fg' fl') (fun (x59 : Int32) (x69 : Int32) (x79 : Int32) (x89 : Int32) (x99 : Int32) (x109 : Int32) (x119 : Int32) (bf9 : Nat → Int32) (lgf9 : Nat → Int32) (lgd9 : Int32) (cnt9 : Int32) (call9 : Int32) (swf9 : Nat → Int32) (fb9 : Nat → Int32) (fg9 : Nat → Int32) (fl9 : Nat → Int32) => I50 x59 x69 x79 x89 x99 x109 x119 bf9 lgf9 lgd9 cnt9 call9 swf9 fb9 fg9 fl9 ∧ mu50 x59 x69 x79 x89 x99 x109 x119 bf9 lgf9 lgd9 cnt9 call9 swf9 fb9 fg9 fl9 < mu50 x5 x6 x7 x8 x9 x10 x11 bf' lgf' lgd' cnt' call' swf' fb' fg' fl') (fun (x59 : Int32) (x69 : Int32) (x79 : Int32) (x89 : Int32) (x99 : Int32) (x109 : Int32) (x119 : Int32) (bf9 : Nat → Int32) (lgf9 : Nat → Int32) (lgd9 : Int32) (cnt9 : Int32) (call9 : Int32) (swf9 : Nat → Int32) (fb9 : Nat → Int32) (fg9 : Nat → Int32) (fl9 : Nat → Int32) => I107 x59 x69 x79 x89 x99 x109 x119 bf9 lgf9 lgd9 cnt9 call9 swf9 fb9 fg9 fl9 ∧ mu107 x59 x69 x79 x89 x99 x109 x119 bf9 lgf9 lgd9 cnt9 call9 swf9 fb9 fg9 fl9 < mu50 x5 x6 x7 x8 x9 x10 x11 bf' lgf' lgd' cnt' call' swf' fb' fg' fl') (fun (x59 : Int32) (x69 : Int32) (x79 : Int32) (x89 : Int32) (x99 : Int32) (x109 : Int32) (x119 : Int32) (bf9 : Nat → Int32) (lgf9 : Nat → Int32) (lgd9 : Int32) (cnt9 : Int32) (call9 : Int32) (swf9 : Nat → Int32) (fb9 : Nat → Int32) (fg9 : Nat → Int32) (fl9 : Nat → Int32) => I230 x59 x69 x79 x89 x99 x109 x119 bf9 lgf9 lgd9 cnt9 call9 swf9 fb9 fg9 fl9 ∧ mu230 x59 x69 x79 x89 x99 x109 x119 bf9 lgf9 lgd9 cnt9 call9 swf9 fb9 fg9 fl9 < mu50 x5 x6 x7 x8 x9 x10 x11 bf' lgf' lgd' cnt' call' swf' fb' fg' fl') I389 I418 x5 x6 x7 x8 x9 x10 x11 bf' lgf' lgd' cnt' call' swf' fb' fg' fl') (hv107 : ∀ (x5 : Int32) (x6 : Int32) (x7 : Int32) (x8 : Int32) (x9 : Int32) (x10 : Int32) (x11 : Int32) (bf' : Nat → Int32) (lgf' : Nat → Int32) (lgd' : Int32) (cnt' : Int32) (call' : Int32) (swf' : Nat → Int32) (fb' : Nat → Int32) (fg' : Nat → Int32) (fl' : Nat → Int32), I107 x5 x6 x7 x8 x9 x10 x11 bf' lgf' lgd' cnt' call' swf' fb' fg' fl' → vs_L_runs_107 lgd ccc cac cfc clc cf bcc bac bfc blc bf lgf cnt call swf fnf fb fg fl p1 P (fun (x59 : Int32) (x69 : Int32) (x79 : Int32) (bf9 : Nat → Int32) (lgf9 : Nat → Int32) (lgd9 : Int32) (cnt9 : Int32) (call9 : Int32) (swf9 : Nat → Int32) (fb9 : Nat → Int32) (fg9 : Nat → Int32) (fl9 : Nat → Int32) => I33 x59 x69 x79 bf9 lgf9 lgd9 cnt9 call9 swf9 fb9 fg9 fl9 ∧ mu33 x59 x69 x79 bf9 lgf9 lgd9 cnt9 call9 swf9 fb9 fg9 fl9 < mu107 x5 x6 x7 x8 x9 x10 x11 bf' lgf' lgd' cnt' call' swf' fb' fg' fl') (fun (x59 : Int32) (x69 : Int32) (x79 : Int32) (x89 : Int32) (x99 : Int32) (x109 : Int32) (x119 : Int32) (bf9 : Nat → Int32) (lgf9 : Nat → Int32) (lgd9 : Int32) (cnt9 : Int32) (call9 : Int32) (swf9 : Nat → Int32) (fb9 : Nat → Int32) (fg9 : Nat → Int32) (fl9 : Nat → Int32) => I50 x59 x69 x79 x89 x99 x109 x119 bf9 lgf9 lgd9 cnt9 call9 swf9 fb9 fg9 fl9 ∧ mu50 x59 x69 x79 x89 x99 x109 x119 bf9 lgf9 lgd9 cnt9 call9 swf9 fb9 fg9 fl9 < mu107 x5 x6 x7 x8 x9 x10 x11 bf' lgf' lgd' cnt' call' swf' fb' fg' fl') (fun (x59 : Int32) (x69 : Int32) (x79 : Int32) (x89 : Int32) (x99 : Int32) (x109 : Int32) (x119 : Int32) (bf9 : Nat → Int32) (lgf9 : Nat → Int32) (lgd9 : Int32) (cnt9 : Int32) (call9 : Int32) (swf9 : Nat → Int32) (fb9 : Nat → Int32) (fg9 : Nat → Int32) (fl9 : Nat → Int32) => I107 x59 x69 x79 x89 x99 x109 x119 bf9 lgf9 lgd9 cnt9 call9 swf9 fb9 fg9 fl9 ∧ mu107 x59 x69 x79 x89 x99 x109 x119 bf9 lgf9 lgd9 cnt9 call9 swf9 fb9 fg9 fl9 < mu107 x5 x6 x7 x8 x9 x10 x11 bf' lgf' lgd' cnt' call' swf' fb' fg' fl') (fun (x59 : Int32) (x69 : Int32) (x79 : Int32) (x89 : Int32) (x99 : Int32) (x109 : Int32) (x119 : Int32) (bf9 : Nat → Int32) (lgf9 : Nat → Int32) (lgd9 : Int32) (cnt9 : Int32) (call9 : Int32) (swf9 : Nat → Int32) (fb9 : Nat → Int32) (fg9 : Nat → Int32) (fl9 : Nat → Int32) => I230 x59 x69 x79 x89 x99 x109 x119 bf9 lgf9 lgd9 cnt9 call9 swf9 fb9 fg9 fl9 ∧ mu230 x59 x69 x79 x89 x99 x109 x119 bf9 lgf9 lgd9 cnt9 call9 swf9 fb9 fg9 fl9 < mu107 x5 x6 x7 x8 x9 x10 x11 bf' lgf' lgd' cnt' call' swf' fb' fg' fl') I389 I418 x5 x6 x7 x8 x9 x10 x11 bf' lgf' lgd' cnt' call' swf' fb' fg' fl') (hv230 : ∀ (x5 : Int32) (x6 : Int32) (x7 : Int32) (x8 : Int32) (x9 : Int32) (x10 : Int32) (x11 : Int32) (bf' : Nat → Int32) (lgf' : Nat → Int32) (lgd' : Int32) (cnt' : Int32) (call' : Int32) (swf' : Nat → Int32) (fb' : Nat → Int32) (fg' : Nat → Int32) (fl' : Nat → Int32), I230 x5 x6 x7 x8 x9 x10 x11 bf' lgf' lgd' cnt' call' swf' fb' fg' fl' → vs_L_runs_230 lgd ccc cac cfc clc cf bcc bac bfc blc bf lgf cnt call swf fnf fb fg fl p1 P (fun (x59 : Int32) (x69 : Int32) (x79 : Int32) (bf9 : Nat → Int32) (lgf9 : Nat → Int32) (lgd9 : Int32) (cnt9 : Int32) (call9 : Int32) (swf9 : Nat → Int32) (fb9 : Nat → Int32) (fg9 : Nat → Int32) (fl9 : Nat → Int32) => I33 x59 x69 x79 bf9 lgf9 lgd9 cnt9 call9 swf9 fb9 fg9 fl9 ∧ mu33 x59 x69 x79 bf9 lgf9 lgd9 cnt9 call9 swf9 fb9 fg9 fl9 < mu230 x5 x6 x7 x8 x9 x10 x11 bf' lgf' lgd' cnt' call' swf' fb' fg' fl') (fun (x59 : Int32) (x69 : Int32) (x79 : Int32) (x89 : Int32) (x99 : Int32) (x109 : Int32) (x119 : Int32) (bf9 : Nat → Int32) (lgf9 : Nat → Int32) (lgd9 : Int32) (cnt9 : Int32) (call9 : Int32) (swf9 : Nat → Int32) (fb9 : Nat → Int32) (fg9 : Nat → Int32) (fl9 : Nat → Int32) => I50 x59 x69 x79 x89 x99 x109 x119 bf9 lgf9 lgd9 cnt9 call9 swf9 fb9 fg9 fl9 ∧ mu50 x59 x69 x79 x89 x99 x109 x119 bf9 lgf9 lgd9 cnt9 call9 swf9 fb9 fg9 fl9 < mu230 x5 x6 x7 x8 x9 x10 x11 bf' lgf' lgd' cnt' call' swf' fb' fg' fl') (fun (x59 : Int32) (x69 : Int32) (x79 : Int32) (x89 : Int32) (x99 : Int32) (x109 : Int32) (x119 : Int32) (bf9 : Nat → Int32) (lgf9 : Nat → Int32) (lgd9 : Int32) (cnt9 : Int32) (call9 : Int32) (swf9 : Nat → Int32) (fb9 : Nat → Int32) (fg9 : Nat → Int32) (fl9 : Nat → Int32) => I107 x59 x69 x79 x89 x99 x109 x119 bf9 lgf9 lgd9 cnt9 call9 swf9 fb9 fg9 fl9 ∧ mu107 x59 x69 x79 x89 x99 x109 x119 bf9 lgf9 lgd9 cnt9 call9 swf9 fb9 fg9 fl9 < mu230 x5 x6 x7 x8 x9 x10 x11 bf' lgf' lgd' cnt' call' swf' fb' fg' fl') (fun (x59 : Int32) (x69 : Int32) (x79 : Int32) (x89 : Int32) (x99 : Int32) (x109 : Int32) (x119 : Int32) (bf9 : Nat → Int32) (lgf9 : Nat → Int32) (lgd9 : Int32) (cnt9 : Int32) (call9 : Int32) (swf9 : Nat → Int32) (fb9 : Nat → Int32) (fg9 : Nat → Int32) (fl9 : Nat → Int32) => I230 x59 x69 x79 x89 x99 x109 x119 bf9 lgf9 lgd9 cnt9 call9 swf9 fb9 fg9 fl9 ∧ mu230 x59 x69 x79 x89 x99 x109 x119 bf9 lgf9 lgd9 cnt9 call9 swf9 fb9 fg9 fl9 < mu230 x5 x6 x7 x8 x9 x10 x11 bf' lgf' lgd' cnt' call' swf' fb' fg' fl') I389 I418 x5 x6 x7 x8 x9 x10 x11 bf' lgf' lgd' cnt' call' swf' fb' fg' fl') (hv389 : ∀ (x5 : Int32) (x6 : Int32) (x7 : Int32) (bf' : Nat → Int32) (lgf' : Nat → Int32) (lgd' : Int32) (cnt' : Int32) (call' : Int32) (swf' : Nat → Int32) (fb' : Nat → Int32) (fg' : Nat → Int32) (fl' : Nat → Int32), I389 x5 x6 x7 bf' lgf' lgd' cnt' call' swf' fb' fg' fl' → vs_L_runs_389 lgd ccc cac cfc clc cf bcc bac bfc blc bf lgf cnt call swf fnf fb fg fl p1 P I33 I50 I107 I230 (fun (x59 : Int32) (x69 : Int32) (x79 : Int32) (bf9 : Nat → Int32) (lgf9 : Nat → Int32) (lgd9 : Int32) (cnt9 : Int32) (call9 : Int32) (swf9 : Nat → Int32) (fb9 : Nat → Int32) (fg9 : Nat → Int32) (fl9 : Nat → Int32) => I389 x59 x69 x79 bf9 lgf9 lgd9 cnt9 call9 swf9 fb9 fg9 fl9 ∧ mu389 x59 x69 x79 bf9 lgf9 lgd9 cnt9 call9 swf9 fb9 fg9 fl9 < mu389 x5 x6 x7 bf' lgf' lgd' cnt' call' swf' fb' fg' fl') I418 x5 x6 x7 bf' lgf' lgd' cnt' call' swf' fb' fg' fl') (hv418 : ∀ (x5 : Int32) (x6 : Int32) (x7 : Int32) (x8 : Int32) (bf' : Nat → Int32) (lgf' : Nat → Int32) (lgd' : Int32) (cnt' : Int32) (call' : Int32) (swf' : Nat → Int32) (fb' : Nat → Int32) (fg' : Nat → Int32) (fl' : Nat → Int32), I418 x5 x6 x7 x8 bf' lgf' lgd' cnt' call' swf' fb' fg' fl' → vs_L_runs_418 lgd ccc cac cfc clc cf bcc bac bfc blc bf lgf cnt call swf fnf fb fg fl p1 P I33 I50 I107 I230 I389 (fun (x59 : Int32) (x69 : Int32) (x79 : Int32) (x89 : Int32) (bf9 : Nat → Int32) (lgf9 : Nat → Int32) (lgd9 : Int32) (cnt9 : Int32) (call9 : Int32) (swf9 : Nat → Int32) (fb9 : Nat → Int32) (fg9 : Nat → Int32) (fl9 : Nat → Int32) => I418 x59 x69 x79 x89 bf9 lgf9 lgd9 cnt9 call9 swf9 fb9 fg9 fl9 ∧ mu418 x59 x69 x79 x89 bf9 lgf9 lgd9 cnt9 call9 swf9 fb9 fg9 fl9 < mu418 x5 x6 x7 x8 bf' lgf' lgd' cnt' call' swf' fb' fg' fl') x5 x6 x7 x8 bf' lgf' lgd' cnt' call' swf' fb' fg' fl') (he : ve_L_runs lgd ccc cac cfc clc cf bcc bac bfc blc bf lgf cnt call swf fnf fb fg fl p1 P I33 I50 I107 I230 I389 I418) : Met l yL_runs wsL_runs ({ frames := 38, cells := 0, slots := 0, locals := 1026 } : Room) (ff_Pc D [(cI, .int)] [.ref xh, .int p1, .ref qb, .ref qg, .ref ql] ([(xh, .inr (4, [.ref ch, .ref bh, .ref lg, .int lgd, .ref sh, .ref vh])), (ch, .inr (0, [.ref ca, .int ccc, .int cac, .int cfc, .int clc])), (ca, .inl (cI, 10, .inl cf)), (bh, .inr (0, [.ref ba, .int bcc, .int bac, .int bfc, .int blc])), (ba, .inl (cI, 10, .inl bf)), (lg, .inl (cI, 12, .inl lgf)), (sh, .inr (2, [.ref sa, .int cnt, .int call])), (sa, .inl (cI, 12, .inl swf)), (vh, .inr (3, [.ref va])), (va, .inl (cI, 12, .inl fnf)), (qb, .inl (cI, 12, .inl fb)), (qg, .inl (cI, 3, .inl fg)), (ql, .inl (cI, 12, .inl fl))] : va_W) sz) (va_Qi P (fun (u : (Nat → Int32) × (Nat → Int32) × Int32 × Int32 × Int32 × (Nat → Int32) × (Nat → Int32) × (Nat → Int32) × (Nat → Int32)) t => ff_B D [(cI, .int)] (va_A ([(xh, .inr (4, [.ref ch, .ref bh, .ref lg, .int lgd, .ref sh, .ref vh])), (ch, .inr (0, [.ref ca, .int ccc, .int cac, .int cfc, .int clc])), (ca, .inl (cI, 10, .inl cf)), (bh, .inr (0, [.ref ba, .int bcc, .int bac, .int bfc, .int blc])), (ba, .inl (cI, 10, .inl bf)), (lg, .inl (cI, 12, .inl lgf)), (sh, .inr (2, [.ref sa, .int cnt, .int call])), (sa, .inl (cI, 12, .inl swf)), (vh, .inr (3, [.ref va])), (va, .inl (cI, 12, .inl fnf)), (qb, .inl (cI, 12, .inl fb)), (qg, .inl (cI, 3, .inl fg)), (ql, .inl (cI, 12, .inl fl))] : va_W) sz) [(xh, .inr (4, [.ref ch, .ref bh, .ref lg, .int (u.2.2.1), .ref sh, .ref vh])), (ch, .inr (0, [.ref ca, .int ccc, .int cac, .int cfc, .int clc])), (ca, .inl (cI, 10, .inl cf)), (bh, .inr (0, [.ref ba, .int bcc, .int bac, .int bfc, .int blc])), (ba, .inl (cI, 10, .inl (u.1))), (lg, .inl (cI, 12, .inl (u.2.1))), (sh, .inr (2, [.ref sa, .int (u.2.2.2.1), .int (u.2.2.2.2.1)])), (sa, .inl (cI, 12, .inl (u.2.2.2.2.2.1))), (vh, .inr (3, [.ref va])), (va, .inl (cI, 12, .inl fnf)), (qb, .inl (cI, 12, .inl (u.2.2.2.2.2.2.1))), (qg, .inl (cI, 3, .inl (u.2.2.2.2.2.2.2.1))), (ql, .inl (cI, 12, .inl (u.2.2.2.2.2.2.2.2)))] t) (va_A ([(xh, .inr (4, [.ref ch, .ref bh, .ref lg, .int lgd, .ref sh, .ref vh])), (ch, .inr (0, [.ref ca, .int ccc, .int cac, .int cfc, .int clc])), (ca, .inl (cI, 10, .inl cf)), (bh, .inr (0, [.ref ba, .int bcc, .int bac, .int bfc, .int blc])), (ba, .inl (cI, 10, .inl bf)), (lg, .inl (cI, 12, .inl lgf)), (sh, .inr (2, [.ref sa, .int cnt, .int call])), (sa, .inl (cI, 12, .inl swf)), (vh, .inr (3, [.ref va])), (va, .inl (cI, 12, .inl fnf)), (qb, .inl (cI, 12, .inl fb)), (qg, .inl (cI, 3, .inl fg)), (ql, .inl (cI, 12, .inl fl))] : va_W) sz)) 0 0 (va_A ([(xh, .inr (4, [.ref ch, .ref bh, .ref lg, .int lgd, .ref sh, .ref vh])), (ch, .inr (0, [.ref ca, .int ccc, .int cac, .int cfc, .int clc])), (ca, .inl (cI, 10, .inl cf)), (bh, .inr (0, [.ref ba, .int bcc, .int bac, .int bfc, .int blc])), (ba, .inl (cI, 10, .inl bf)), (lg, .inl (cI, 12, .inl lgf)), (sh, .inr (2, [.ref sa, .int cnt, .int call])), (sa, .inl (cI, 12, .inl swf)), (vh, .inr (3, [.ref va])), (va, .inl (cI, 12, .inl fnf)), (qb, .inl (cI, 12, .inl fb)), (qg, .inl (cI, 3, .inl fg)), (ql, .inl (cI, 12, .inl fl))] : va_W) sz) := by
  refine ff_metZ (Wf := (fun (u : (Nat → Int32) × (Nat → Int32) × Int32 × Int32 × Int32 × (Nat → Int32) × (Nat → Int32) × (Nat → Int32) × (Nat → Int32)) => ([(xh, .inr (4, [.ref ch, .ref bh, .ref lg, .int (u.2.2.1), .ref sh, .ref vh])), (ch, .inr (0, [.ref ca, .int ccc, .int cac, .int cfc, .int clc])), (ca, .inl (cI, 10, .inl cf)), (bh, .inr (0, [.ref ba, .int bcc, .int bac, .int bfc, .int blc])), (ba, .inl (cI, 10, .inl (u.1))), (lg, .inl (cI, 12, .inl (u.2.1))), (sh, .inr (2, [.ref sa, .int (u.2.2.2.1), .int (u.2.2.2.2.1)])), (sa, .inl (cI, 12, .inl (u.2.2.2.2.2.1))), (vh, .inr (3, [.ref va])), (va, .inl (cI, 12, .inl fnf)), (qb, .inl (cI, 12, .inl (u.2.2.2.2.2.2.1))), (qg, .inl (cI, 3, .inl (u.2.2.2.2.2.2.2.1))), (ql, .inl (cI, 12, .inl (u.2.2.2.2.2.2.2.2)))] : va_W))) (by decide +kernel) rfl (Nat.le_of_ble_eq_true rfl) ?_
  intro p e s m args below meth c A Q ls H hx hb hml hown hts hN hA hK hP hD hS hret hl
  have L418 : ∀ (N : Nat) (x5 : Int32) (x6 : Int32) (x7 : Int32) (x8 : Int32) (bf' : Nat → Int32) (lgf' : Nat → Int32) (lgd' : Int32) (cnt' : Int32) (call' : Int32) (swf' : Nat → Int32) (fb' : Nat → Int32) (fg' : Nat → Int32) (fl' : Nat → Int32) (H : Heap) (locs : List Loc) (ls : Array Slot), I418 x5 x6 x7 x8 bf' lgf' lgd' cnt' call' swf' fb' fg' fl' → mu418 x5 x6 x7 x8 bf' lgf' lgd' cnt' call' swf' fb' fg' fl' < N → va_P D vwCl [(xh, .inr (4, [.ref ch, .ref bh, .ref lg, .int lgd', .ref sh, .ref vh])), (ch, .inr (0, [.ref ca, .int ccc, .int cac, .int cfc, .int clc])), (ca, .inl (cI, 10, .inl cf)), (bh, .inr (0, [.ref ba, .int bcc, .int bac, .int bfc, .int blc])), (ba, .inl (cI, 10, .inl bf')), (lg, .inl (cI, 12, .inl lgf')), (sh, .inr (2, [.ref sa, .int cnt', .int call'])), (sa, .inl (cI, 12, .inl swf')), (vh, .inr (3, [.ref va])), (va, .inl (cI, 12, .inl fnf)), (qb, .inl (cI, 12, .inl fb')), (qg, .inl (cI, 3, .inl fg')), (ql, .inl (cI, 12, .inl fl'))] H → va_D A [(xh, .inr (4, [.ref ch, .ref bh, .ref lg, .int lgd', .ref sh, .ref vh])), (ch, .inr (0, [.ref ca, .int ccc, .int cac, .int cfc, .int clc])), (ca, .inl (cI, 10, .inl cf)), (bh, .inr (0, [.ref ba, .int bcc, .int bac, .int bfc, .int blc])), (ba, .inl (cI, 10, .inl bf')), (lg, .inl (cI, 12, .inl lgf')), (sh, .inr (2, [.ref sa, .int cnt', .int call'])), (sa, .inl (cI, 12, .inl swf')), (vh, .inr (3, [.ref va])), (va, .inl (cI, 12, .inl fnf)), (qb, .inl (cI, 12, .inl fb')), (qg, .inl (cI, 3, .inl fg')), (ql, .inl (cI, 12, .inl fl'))] → va_S A s.heap H locs → lv_has ls 13 [(0, .ref xh), (1, .int p1), (2, .ref qb), (3, .ref qg), (4, .ref ql), (5, .int x5), (6, .int x6), (7, .int x7), (8, .int x8)] → W p l e ({ frames := 38, cells := 0, slots := 0, locals := 1026 } : Room) s m args below meth c H locs 0 0 Q (F0 m 418 ls []) := by
    intro N
    induction N with
    | zero => intros; rename_i hz _ _ _ _; exact absurd hz (Nat.not_lt_zero _)
    | succ N ih =>
      intro x5 x6 x7 x8 bf' lgf' lgd' cnt' call' swf' fb' fg' fl' H locs ls hI hmu hP hD hS hl
      have h := hv418 x5 x6 x7 x8 bf' lgf' lgd' cnt' call' swf' fb' fg' fl' hI
      unfold vs_L_runs_418 at h
      refine lv_iload hx hb dL_runs_418 (lv_at hl 8 rfl) ?_
      refine lv_iload hx hb dL_runs_420 (lv_at hl 5 rfl) ?_
      refine lv_icmp_eq (tgt := 435) hx hb dL_runs_422 (by decide) (fun c_1 => ?_) (fun c_1 => ?_)
      · have h := h.1 c_1
        refine lv_iload hx hb dL_runs_435 (lv_at hl 7 rfl) ?_
        refine lv_if_lt (tgt := 450) hx hb dL_runs_437 (by decide) (fun c_2 => ?_) (fun c_2 => ?_)
        · have h := h.1 c_2
          refine lv_iconst (v := 1) hx hb dL_runs_450 (by decide) ?_
          refine lv_goto (tgt := 455) hx hb dL_runs_451 (by decide) ?_
          exact hret 1 (bf', lgf', lgd', cnt', call', swf', fb', fg', fl') _ _ _ _ _ _ (by decide) h (hP.sub [0, 1, 2, 3, 4, 5, 6, 7, 8, 9, 10, 11, 12] rfl) (hD.sub [0, 1, 2, 3, 4, 5, 6, 7, 8, 9, 10, 11, 12] (by decide) rfl) hS (Nat.le_of_ble_eq_true rfl) (Nat.le_of_ble_eq_true rfl) dL_runs_455
        · have h := h.2 c_2
          refine lv_aload_n hx hb dL_runs_440 rfl (lv_at hl 0 rfl) ?_
          refine lv_iconst (v := 5) hx hb dL_runs_441 (by decide) ?_
          obtain ⟨p_3, h⟩ := h
          have hPc := hP.sub (ws' := [(xh, .inr (4, [.ref ch, .ref bh, .ref lg, .int lgd', .ref sh, .ref vh])), (ch, .inr (0, [.ref ca, .int ccc, .int cac, .int cfc, .int clc])), (ca, .inl (cI, 10, .inl cf)), (bh, .inr (0, [.ref ba, .int bcc, .int bac, .int bfc, .int blc])), (ba, .inl (cI, 10, .inl bf')), (lg, .inl (cI, 12, .inl lgf')), (sh, .inr (2, [.ref sa, .int cnt', .int call'])), (sa, .inl (cI, 12, .inl swf')), (vh, .inr (3, [.ref va])), (va, .inl (cI, 12, .inl fnf))]) [0, 1, 2, 3, 4, 5, 6, 7, 8, 9] rfl
          have hDc := hD.sub (ws' := [(xh, .inr (4, [.ref ch, .ref bh, .ref lg, .int lgd', .ref sh, .ref vh])), (ch, .inr (0, [.ref ca, .int ccc, .int cac, .int cfc, .int clc])), (ca, .inl (cI, 10, .inl cf)), (bh, .inr (0, [.ref ba, .int bcc, .int bac, .int bfc, .int blc])), (ba, .inl (cI, 10, .inl bf')), (lg, .inl (cI, 12, .inl lgf')), (sh, .inr (2, [.ref sa, .int cnt', .int call'])), (sa, .inl (cI, 12, .inl swf')), (vh, .inr (3, [.ref va])), (va, .inl (cI, 12, .inl fnf))]) [0, 1, 2, 3, 4, 5, 6, 7, 8, 9] (by decide) rfl
          refine ff_callI (va_runV (As := [.int 5]) (rest := []) ⟨hx, hb, hml, hown, hts⟩ (c_X4_solutionsN l D cI xh ch ca bh ba lg sh sa vh va H.size lgd' ccc cac cfc clc cf bcc bac bfc blc bf' lgf' cnt' call' swf' fnf 5 p_3) (cwV 1 hts gL_runs_X4_solutions rfl rfl rfl (by decide +kernel) ⟨Nat.le_of_ble_eq_true rfl, Nat.le_of_ble_eq_true rfl⟩) (ff_preV (q := (RX4, TX4, 6)) (ci := 4) (q0 := 0) hPc hK hDc hN rfl rfl) rfl rfl hl.1 rfl (lv_room (Nat.le_of_ble_eq_true rfl)) dL_runs_442 ⟨Nat.le_of_ble_eq_true rfl, Nat.le_of_ble_eq_true rfl⟩) hP hD hS hA [0, 1, 2, 3, 4, 5, 6, 7, 8, 9] [10, 11, 12] (wr := [(qb, .inl (cI, 12, .inl fb')), (qg, .inl (cI, 3, .inl fg')), (ql, .inl (cI, 12, .inl fl'))]) rfl rfl (by decide) (by decide) (fun r u H locs hw hP hD hS => ?_)
          obtain ⟨e0_w, e1_w⟩ := hw
          replace e0_w := e0_w.symm
          subst e0_w
          replace e1_w := e1_w.symm
          subst e1_w
          have hP : va_P D vwCl [(qb, .inl (cI, 12, .inl fb')), (qg, .inl (cI, 3, .inl fg')), (ql, .inl (cI, 12, .inl fl')), (xh, .inr (4, [.ref ch, .ref bh, .ref lg, .int lgd', .ref sh, .ref vh])), (ch, .inr (0, [.ref ca, .int ccc, .int cac, .int cfc, .int clc])), (ca, .inl (cI, 10, .inl cf)), (bh, .inr (0, [.ref ba, .int bcc, .int bac, .int bfc, .int blc])), (ba, .inl (cI, 10, .inl bf')), (lg, .inl (cI, 12, .inl lgf')), (sh, .inr (2, [.ref sa, .int cnt', .int call'])), (sa, .inl (cI, 12, .inl swf')), (vh, .inr (3, [.ref va])), (va, .inl (cI, 12, .inl fnf))] H := hP
          have hD : va_D A [(qb, .inl (cI, 12, .inl fb')), (qg, .inl (cI, 3, .inl fg')), (ql, .inl (cI, 12, .inl fl')), (xh, .inr (4, [.ref ch, .ref bh, .ref lg, .int lgd', .ref sh, .ref vh])), (ch, .inr (0, [.ref ca, .int ccc, .int cac, .int cfc, .int clc])), (ca, .inl (cI, 10, .inl cf)), (bh, .inr (0, [.ref ba, .int bcc, .int bac, .int bfc, .int blc])), (ba, .inl (cI, 10, .inl bf')), (lg, .inl (cI, 12, .inl lgf')), (sh, .inr (2, [.ref sa, .int cnt', .int call'])), (sa, .inl (cI, 12, .inl swf')), (vh, .inr (3, [.ref va])), (va, .inl (cI, 12, .inl fnf))] := hD
          refine lv_iload hx hb dL_runs_445 (lv_at hl 7 rfl) ?_
          refine lv_icmp_ne (tgt := 454) hx hb dL_runs_447 (by decide) (fun c_4 => ?_) (fun c_4 => ?_)
          · have h := h.2 c_4
            refine lv_iconst (v := 0) hx hb dL_runs_454 (by decide) ?_
            exact hret 0 (bf', lgf', lgd', cnt', call', swf', fb', fg', fl') _ _ _ _ _ _ (by decide) h (hP.sub [3, 4, 5, 6, 7, 8, 9, 10, 11, 12, 0, 1, 2] rfl) (hD.sub [3, 4, 5, 6, 7, 8, 9, 10, 11, 12, 0, 1, 2] (by decide) rfl) hS (Nat.le_of_ble_eq_true rfl) (Nat.le_of_ble_eq_true rfl) dL_runs_455
          · have h := h.1 c_4
            refine lv_iconst (v := 1) hx hb dL_runs_450 (by decide) ?_
            refine lv_goto (tgt := 455) hx hb dL_runs_451 (by decide) ?_
            exact hret 1 (bf', lgf', lgd', cnt', call', swf', fb', fg', fl') _ _ _ _ _ _ (by decide) h (hP.sub [3, 4, 5, 6, 7, 8, 9, 10, 11, 12, 0, 1, 2] rfl) (hD.sub [3, 4, 5, 6, 7, 8, 9, 10, 11, 12, 0, 1, 2] (by decide) rfl) hS (Nat.le_of_ble_eq_true rfl) (Nat.le_of_ble_eq_true rfl) dL_runs_455
      · have h := h.2 c_1
        refine lv_iload_n hx hb dL_runs_425 rfl (lv_at hl 1 rfl) ?_
        refine lv_iconst (v := 1) hx hb dL_runs_426 (by decide) ?_
        refine lv_icmp_ne (tgt := 454) hx hb dL_runs_427 (by decide) (fun c_5 => ?_) (fun c_5 => ?_)
        · have h := h.2 c_5
          refine lv_iconst (v := 0) hx hb dL_runs_454 (by decide) ?_
          exact hret 0 (bf', lgf', lgd', cnt', call', swf', fb', fg', fl') _ _ _ _ _ _ (by decide) h (hP.sub [0, 1, 2, 3, 4, 5, 6, 7, 8, 9, 10, 11, 12] rfl) (hD.sub [0, 1, 2, 3, 4, 5, 6, 7, 8, 9, 10, 11, 12] (by decide) rfl) hS (Nat.le_of_ble_eq_true rfl) (Nat.le_of_ble_eq_true rfl) dL_runs_455
        · have h := h.1 c_5
          refine lv_iload hx hb dL_runs_430 (lv_at hl 6 rfl) ?_
          refine lv_if_ne (tgt := 454) hx hb dL_runs_432 (by decide) (fun c_6 => ?_) (fun c_6 => ?_)
          · have h := h.2 c_6
            refine lv_iconst (v := 0) hx hb dL_runs_454 (by decide) ?_
            exact hret 0 (bf', lgf', lgd', cnt', call', swf', fb', fg', fl') _ _ _ _ _ _ (by decide) h (hP.sub [0, 1, 2, 3, 4, 5, 6, 7, 8, 9, 10, 11, 12] rfl) (hD.sub [0, 1, 2, 3, 4, 5, 6, 7, 8, 9, 10, 11, 12] (by decide) rfl) hS (Nat.le_of_ble_eq_true rfl) (Nat.le_of_ble_eq_true rfl) dL_runs_455
          · have h := h.1 c_6
            refine lv_iload hx hb dL_runs_435 (lv_at hl 7 rfl) ?_
            refine lv_if_lt (tgt := 450) hx hb dL_runs_437 (by decide) (fun c_7 => ?_) (fun c_7 => ?_)
            · have h := h.1 c_7
              refine lv_iconst (v := 1) hx hb dL_runs_450 (by decide) ?_
              refine lv_goto (tgt := 455) hx hb dL_runs_451 (by decide) ?_
              exact hret 1 (bf', lgf', lgd', cnt', call', swf', fb', fg', fl') _ _ _ _ _ _ (by decide) h (hP.sub [0, 1, 2, 3, 4, 5, 6, 7, 8, 9, 10, 11, 12] rfl) (hD.sub [0, 1, 2, 3, 4, 5, 6, 7, 8, 9, 10, 11, 12] (by decide) rfl) hS (Nat.le_of_ble_eq_true rfl) (Nat.le_of_ble_eq_true rfl) dL_runs_455
            · have h := h.2 c_7
              refine lv_aload_n hx hb dL_runs_440 rfl (lv_at hl 0 rfl) ?_
              refine lv_iconst (v := 5) hx hb dL_runs_441 (by decide) ?_
              obtain ⟨p_8, h⟩ := h
              have hPc := hP.sub (ws' := [(xh, .inr (4, [.ref ch, .ref bh, .ref lg, .int lgd', .ref sh, .ref vh])), (ch, .inr (0, [.ref ca, .int ccc, .int cac, .int cfc, .int clc])), (ca, .inl (cI, 10, .inl cf)), (bh, .inr (0, [.ref ba, .int bcc, .int bac, .int bfc, .int blc])), (ba, .inl (cI, 10, .inl bf')), (lg, .inl (cI, 12, .inl lgf')), (sh, .inr (2, [.ref sa, .int cnt', .int call'])), (sa, .inl (cI, 12, .inl swf')), (vh, .inr (3, [.ref va])), (va, .inl (cI, 12, .inl fnf))]) [0, 1, 2, 3, 4, 5, 6, 7, 8, 9] rfl
              have hDc := hD.sub (ws' := [(xh, .inr (4, [.ref ch, .ref bh, .ref lg, .int lgd', .ref sh, .ref vh])), (ch, .inr (0, [.ref ca, .int ccc, .int cac, .int cfc, .int clc])), (ca, .inl (cI, 10, .inl cf)), (bh, .inr (0, [.ref ba, .int bcc, .int bac, .int bfc, .int blc])), (ba, .inl (cI, 10, .inl bf')), (lg, .inl (cI, 12, .inl lgf')), (sh, .inr (2, [.ref sa, .int cnt', .int call'])), (sa, .inl (cI, 12, .inl swf')), (vh, .inr (3, [.ref va])), (va, .inl (cI, 12, .inl fnf))]) [0, 1, 2, 3, 4, 5, 6, 7, 8, 9] (by decide) rfl
              refine ff_callI (va_runV (As := [.int 5]) (rest := []) ⟨hx, hb, hml, hown, hts⟩ (c_X4_solutionsN l D cI xh ch ca bh ba lg sh sa vh va H.size lgd' ccc cac cfc clc cf bcc bac bfc blc bf' lgf' cnt' call' swf' fnf 5 p_8) (cwV 1 hts gL_runs_X4_solutions rfl rfl rfl (by decide +kernel) ⟨Nat.le_of_ble_eq_true rfl, Nat.le_of_ble_eq_true rfl⟩) (ff_preV (q := (RX4, TX4, 6)) (ci := 4) (q0 := 0) hPc hK hDc hN rfl rfl) rfl rfl hl.1 rfl (lv_room (Nat.le_of_ble_eq_true rfl)) dL_runs_442 ⟨Nat.le_of_ble_eq_true rfl, Nat.le_of_ble_eq_true rfl⟩) hP hD hS hA [0, 1, 2, 3, 4, 5, 6, 7, 8, 9] [10, 11, 12] (wr := [(qb, .inl (cI, 12, .inl fb')), (qg, .inl (cI, 3, .inl fg')), (ql, .inl (cI, 12, .inl fl'))]) rfl rfl (by decide) (by decide) (fun r u H locs hw hP hD hS => ?_)
              obtain ⟨e0_w, e1_w⟩ := hw
              replace e0_w := e0_w.symm
              subst e0_w
              replace e1_w := e1_w.symm
              subst e1_w
              have hP : va_P D vwCl [(qb, .inl (cI, 12, .inl fb')), (qg, .inl (cI, 3, .inl fg')), (ql, .inl (cI, 12, .inl fl')), (xh, .inr (4, [.ref ch, .ref bh, .ref lg, .int lgd', .ref sh, .ref vh])), (ch, .inr (0, [.ref ca, .int ccc, .int cac, .int cfc, .int clc])), (ca, .inl (cI, 10, .inl cf)), (bh, .inr (0, [.ref ba, .int bcc, .int bac, .int bfc, .int blc])), (ba, .inl (cI, 10, .inl bf')), (lg, .inl (cI, 12, .inl lgf')), (sh, .inr (2, [.ref sa, .int cnt', .int call'])), (sa, .inl (cI, 12, .inl swf')), (vh, .inr (3, [.ref va])), (va, .inl (cI, 12, .inl fnf))] H := hP
              have hD : va_D A [(qb, .inl (cI, 12, .inl fb')), (qg, .inl (cI, 3, .inl fg')), (ql, .inl (cI, 12, .inl fl')), (xh, .inr (4, [.ref ch, .ref bh, .ref lg, .int lgd', .ref sh, .ref vh])), (ch, .inr (0, [.ref ca, .int ccc, .int cac, .int cfc, .int clc])), (ca, .inl (cI, 10, .inl cf)), (bh, .inr (0, [.ref ba, .int bcc, .int bac, .int bfc, .int blc])), (ba, .inl (cI, 10, .inl bf')), (lg, .inl (cI, 12, .inl lgf')), (sh, .inr (2, [.ref sa, .int cnt', .int call'])), (sa, .inl (cI, 12, .inl swf')), (vh, .inr (3, [.ref va])), (va, .inl (cI, 12, .inl fnf))] := hD
              refine lv_iload hx hb dL_runs_445 (lv_at hl 7 rfl) ?_
              refine lv_icmp_ne (tgt := 454) hx hb dL_runs_447 (by decide) (fun c_9 => ?_) (fun c_9 => ?_)
              · have h := h.2 c_9
                refine lv_iconst (v := 0) hx hb dL_runs_454 (by decide) ?_
                exact hret 0 (bf', lgf', lgd', cnt', call', swf', fb', fg', fl') _ _ _ _ _ _ (by decide) h (hP.sub [3, 4, 5, 6, 7, 8, 9, 10, 11, 12, 0, 1, 2] rfl) (hD.sub [3, 4, 5, 6, 7, 8, 9, 10, 11, 12, 0, 1, 2] (by decide) rfl) hS (Nat.le_of_ble_eq_true rfl) (Nat.le_of_ble_eq_true rfl) dL_runs_455
              · have h := h.1 c_9
                refine lv_iconst (v := 1) hx hb dL_runs_450 (by decide) ?_
                refine lv_goto (tgt := 455) hx hb dL_runs_451 (by decide) ?_
                exact hret 1 (bf', lgf', lgd', cnt', call', swf', fb', fg', fl') _ _ _ _ _ _ (by decide) h (hP.sub [3, 4, 5, 6, 7, 8, 9, 10, 11, 12, 0, 1, 2] rfl) (hD.sub [3, 4, 5, 6, 7, 8, 9, 10, 11, 12, 0, 1, 2] (by decide) rfl) hS (Nat.le_of_ble_eq_true rfl) (Nat.le_of_ble_eq_true rfl) dL_runs_455
  have L389 : ∀ (N : Nat) (x5 : Int32) (x6 : Int32) (x7 : Int32) (bf' : Nat → Int32) (lgf' : Nat → Int32) (lgd' : Int32) (cnt' : Int32) (call' : Int32) (swf' : Nat → Int32) (fb' : Nat → Int32) (fg' : Nat → Int32) (fl' : Nat → Int32) (H : Heap) (locs : List Loc) (ls : Array Slot), I389 x5 x6 x7 bf' lgf' lgd' cnt' call' swf' fb' fg' fl' → mu389 x5 x6 x7 bf' lgf' lgd' cnt' call' swf' fb' fg' fl' < N → va_P D vwCl [(xh, .inr (4, [.ref ch, .ref bh, .ref lg, .int lgd', .ref sh, .ref vh])), (ch, .inr (0, [.ref ca, .int ccc, .int cac, .int cfc, .int clc])), (ca, .inl (cI, 10, .inl cf)), (bh, .inr (0, [.ref ba, .int bcc, .int bac, .int bfc, .int blc])), (ba, .inl (cI, 10, .inl bf')), (lg, .inl (cI, 12, .inl lgf')), (sh, .inr (2, [.ref sa, .int cnt', .int call'])), (sa, .inl (cI, 12, .inl swf')), (vh, .inr (3, [.ref va])), (va, .inl (cI, 12, .inl fnf)), (qb, .inl (cI, 12, .inl fb')), (qg, .inl (cI, 3, .inl fg')), (ql, .inl (cI, 12, .inl fl'))] H → va_D A [(xh, .inr (4, [.ref ch, .ref bh, .ref lg, .int lgd', .ref sh, .ref vh])), (ch, .inr (0, [.ref ca, .int ccc, .int cac, .int cfc, .int clc])), (ca, .inl (cI, 10, .inl cf)), (bh, .inr (0, [.ref ba, .int bcc, .int bac, .int bfc, .int blc])), (ba, .inl (cI, 10, .inl bf')), (lg, .inl (cI, 12, .inl lgf')), (sh, .inr (2, [.ref sa, .int cnt', .int call'])), (sa, .inl (cI, 12, .inl swf')), (vh, .inr (3, [.ref va])), (va, .inl (cI, 12, .inl fnf)), (qb, .inl (cI, 12, .inl fb')), (qg, .inl (cI, 3, .inl fg')), (ql, .inl (cI, 12, .inl fl'))] → va_S A s.heap H locs → lv_has ls 13 [(0, .ref xh), (1, .int p1), (2, .ref qb), (3, .ref qg), (4, .ref ql), (5, .int x5), (6, .int x6), (7, .int x7)] → W p l e ({ frames := 38, cells := 0, slots := 0, locals := 1026 } : Room) s m args below meth c H locs 0 0 Q (F0 m 389 ls []) := by
    intro N
    induction N with
    | zero => intros; rename_i hz _ _ _ _; exact absurd hz (Nat.not_lt_zero _)
    | succ N ih =>
      intro x5 x6 x7 bf' lgf' lgd' cnt' call' swf' fb' fg' fl' H locs ls hI hmu hP hD hS hl
      have h := hv389 x5 x6 x7 bf' lgf' lgd' cnt' call' swf' fb' fg' fl' hI
      unfold vs_L_runs_389 at h
      refine lv_aload_n hx hb dL_runs_389 rfl (lv_at hl 0 rfl) ?_
      refine lv_iload_n hx hb dL_runs_390 rfl (lv_at hl 1 rfl) ?_
      obtain ⟨p_10, h⟩ := h
      have hPc := hP.sub (ws' := [(xh, .inr (4, [.ref ch, .ref bh, .ref lg, .int lgd', .ref sh, .ref vh])), (ch, .inr (0, [.ref ca, .int ccc, .int cac, .int cfc, .int clc])), (ca, .inl (cI, 10, .inl cf)), (bh, .inr (0, [.ref ba, .int bcc, .int bac, .int bfc, .int blc])), (ba, .inl (cI, 10, .inl bf')), (lg, .inl (cI, 12, .inl lgf')), (sh, .inr (2, [.ref sa, .int cnt', .int call'])), (sa, .inl (cI, 12, .inl swf')), (vh, .inr (3, [.ref va])), (va, .inl (cI, 12, .inl fnf))]) [0, 1, 2, 3, 4, 5, 6, 7, 8, 9] rfl
      have hDc := hD.sub (ws' := [(xh, .inr (4, [.ref ch, .ref bh, .ref lg, .int lgd', .ref sh, .ref vh])), (ch, .inr (0, [.ref ca, .int ccc, .int cac, .int cfc, .int clc])), (ca, .inl (cI, 10, .inl cf)), (bh, .inr (0, [.ref ba, .int bcc, .int bac, .int bfc, .int blc])), (ba, .inl (cI, 10, .inl bf')), (lg, .inl (cI, 12, .inl lgf')), (sh, .inr (2, [.ref sa, .int cnt', .int call'])), (sa, .inl (cI, 12, .inl swf')), (vh, .inr (3, [.ref va])), (va, .inl (cI, 12, .inl fnf))]) [0, 1, 2, 3, 4, 5, 6, 7, 8, 9] (by decide) rfl
      refine ff_callI (va_runV (As := [.int p1]) (rest := []) ⟨hx, hb, hml, hown, hts⟩ (c_X4_runN l D cI xh ch ca bh ba lg sh sa vh va H.size lgd' ccc cac cfc clc cf bcc bac bfc blc bf' lgf' cnt' call' swf' fnf p1 p_10) (cwV 1 hts gL_runs_X4_run rfl rfl rfl (by decide +kernel) ⟨Nat.le_of_ble_eq_true rfl, Nat.le_of_ble_eq_true rfl⟩) (ff_preV (q := (RX4, TX4, 6)) (ci := 4) (q0 := 0) hPc hK hDc hN rfl rfl) rfl rfl hl.1 rfl (lv_room (Nat.le_of_ble_eq_true rfl)) dL_runs_391 ⟨Nat.le_of_ble_eq_true rfl, Nat.le_of_ble_eq_true rfl⟩) hP hD hS hA [0, 1, 2, 3, 4, 5, 6, 7, 8, 9] [10, 11, 12] (wr := [(qb, .inl (cI, 12, .inl fb')), (qg, .inl (cI, 3, .inl fg')), (ql, .inl (cI, 12, .inl fl'))]) rfl rfl (by decide) (by decide) (fun r u H locs hw hP hD hS => ?_)
      obtain ⟨ubf_11, ulgf_11, ulgd_11, cnt_11, call_11, swf_11⟩ := u
      have hw : r = (zrun bcc bac bfc blc bf' p1) ∧ ubf_11 = (if ¬ (zrun bcc bac bfc blc bf' p1) = -1 ∧ zlg lgd' then zwr bf' ((zrun bcc bac bfc blc bf' p1) / 10) (zrem (zrun bcc bac bfc blc bf' p1) 10) else bf') ∧ ulgf_11 = (if ¬ (zrun bcc bac bfc blc bf' p1) = -1 ∧ zlg lgd' then upd lgf' lgd'.toNatClampNeg ((zrun bcc bac bfc blc bf' p1) / 10) else lgf') ∧ ulgd_11 = (if ¬ (zrun bcc bac bfc blc bf' p1) = -1 ∧ zlg lgd' then lgd' + 1 else lgd') := hw
      obtain ⟨e0_w, e1_w, e2_w, e3_w⟩ := hw
      replace e0_w := e0_w.symm
      subst e0_w
      replace e1_w := e1_w.symm
      subst e1_w
      replace e2_w := e2_w.symm
      subst e2_w
      replace e3_w := e3_w.symm
      subst e3_w
      have h := h cnt_11 call_11 swf_11
      have hP : va_P D vwCl [(qb, .inl (cI, 12, .inl fb')), (qg, .inl (cI, 3, .inl fg')), (ql, .inl (cI, 12, .inl fl')), (xh, .inr (4, [.ref ch, .ref bh, .ref lg, .int (if ¬ (zrun bcc bac bfc blc bf' p1) = -1 ∧ zlg lgd' then lgd' + 1 else lgd'), .ref sh, .ref vh])), (ch, .inr (0, [.ref ca, .int ccc, .int cac, .int cfc, .int clc])), (ca, .inl (cI, 10, .inl cf)), (bh, .inr (0, [.ref ba, .int bcc, .int bac, .int bfc, .int blc])), (ba, .inl (cI, 10, .inl (if ¬ (zrun bcc bac bfc blc bf' p1) = -1 ∧ zlg lgd' then zwr bf' ((zrun bcc bac bfc blc bf' p1) / 10) (zrem (zrun bcc bac bfc blc bf' p1) 10) else bf'))), (lg, .inl (cI, 12, .inl (if ¬ (zrun bcc bac bfc blc bf' p1) = -1 ∧ zlg lgd' then upd lgf' lgd'.toNatClampNeg ((zrun bcc bac bfc blc bf' p1) / 10) else lgf'))), (sh, .inr (2, [.ref sa, .int cnt_11, .int call_11])), (sa, .inl (cI, 12, .inl swf_11)), (vh, .inr (3, [.ref va])), (va, .inl (cI, 12, .inl fnf))] H := hP
      have hD : va_D A [(qb, .inl (cI, 12, .inl fb')), (qg, .inl (cI, 3, .inl fg')), (ql, .inl (cI, 12, .inl fl')), (xh, .inr (4, [.ref ch, .ref bh, .ref lg, .int (if ¬ (zrun bcc bac bfc blc bf' p1) = -1 ∧ zlg lgd' then lgd' + 1 else lgd'), .ref sh, .ref vh])), (ch, .inr (0, [.ref ca, .int ccc, .int cac, .int cfc, .int clc])), (ca, .inl (cI, 10, .inl cf)), (bh, .inr (0, [.ref ba, .int bcc, .int bac, .int bfc, .int blc])), (ba, .inl (cI, 10, .inl (if ¬ (zrun bcc bac bfc blc bf' p1) = -1 ∧ zlg lgd' then zwr bf' ((zrun bcc bac bfc blc bf' p1) / 10) (zrem (zrun bcc bac bfc blc bf' p1) 10) else bf'))), (lg, .inl (cI, 12, .inl (if ¬ (zrun bcc bac bfc blc bf' p1) = -1 ∧ zlg lgd' then upd lgf' lgd'.toNatClampNeg ((zrun bcc bac bfc blc bf' p1) / 10) else lgf'))), (sh, .inr (2, [.ref sa, .int cnt_11, .int call_11])), (sa, .inl (cI, 12, .inl swf_11)), (vh, .inr (3, [.ref va])), (va, .inl (cI, 12, .inl fnf))] := hD
      refine lv_topi (fun y_12 ey_12 => ?_)
      have h := h y_12 ey_12
      refine lv_istore (lv' := [(8, .int y_12), (0, .ref xh), (1, .int p1), (2, .ref qb), (3, .ref qg), (4, .ref ql), (5, .int x5), (6, .int x6), (7, .int x7)]) hx hb dL_runs_394 hl (by decide) rfl (fun ls hl => ?_)
      refine lv_iload hx hb dL_runs_396 (lv_at hl 0 rfl) ?_
      refine lv_if_lt (tgt := 418) hx hb dL_runs_398 (by decide) (fun c_13 => ?_) (fun c_13 => ?_)
      · have h := h.1 c_13
        exact L418 _ _ _ _ _ _ _ _ _ _ _ _ _ _ _ _ _ h (Nat.lt_succ_self _) (hP.sub [3, 4, 5, 6, 7, 8, 9, 10, 11, 12, 0, 1, 2] rfl) (hD.sub [3, 4, 5, 6, 7, 8, 9, 10, 11, 12, 0, 1, 2] (by decide) rfl) hS (lv_sub hl [1, 2, 3, 4, 5, 6, 7, 8, 0] rfl)
      · have h := h.2 c_13
        refine lv_aload_n hx hb dL_runs_401 rfl (lv_at hl 3 rfl) ?_
        refine lv_aload_n hx hb dL_runs_402 rfl (lv_at hl 4 rfl) ?_
        refine lv_aload hx hb dL_runs_403 (lv_at hl 5 rfl) ?_
        refine lv_iload hx hb dL_runs_405 (lv_at hl 0 rfl) ?_
        refine lv_bipush (v := 10) hx hb dL_runs_407 (by decide) ?_
        refine lv_idiv hx hb dL_runs_409 (by decide) ?_
        refine lv_iload hx hb dL_runs_410 (lv_at hl 0 rfl) ?_
        refine lv_bipush (v := 10) hx hb dL_runs_412 (by decide) ?_
        refine lv_irem hx hb dL_runs_414 (by decide) ?_
        obtain ⟨p_14, h⟩ := h
        have hPc := hP.sub (ws' := [(qb, .inl (cI, 12, .inl fb')), (qg, .inl (cI, 3, .inl fg')), (ql, .inl (cI, 12, .inl fl'))]) [0, 1, 2] rfl
        have hDc := hD.sub (ws' := [(qb, .inl (cI, 12, .inl fb')), (qg, .inl (cI, 3, .inl fg')), (ql, .inl (cI, 12, .inl fl'))]) [0, 1, 2] (by decide) rfl
        refine ff_callV (va_runS (As := [.ref qb, .ref qg, .ref ql, .int (y_12 / 10), .int (y_12 - y_12 / 10 * 10)]) (rest := []) ⟨hx, hb, hml, hown, hts⟩ (c_L_noted l D cI qb qg ql H.size fb' fg' fl' (y_12 / 10) (y_12 - y_12 / 10 * 10) p_14) (va_cwS 5 hts gL_runs_L_noted rfl rfl rfl (by decide +kernel) ⟨Nat.le_of_ble_eq_true rfl, Nat.le_of_ble_eq_true rfl⟩) (ff_preS hPc hK hDc hN) rfl rfl hl.1 rfl (lv_room (Nat.le_of_ble_eq_true rfl)) dL_runs_415 ⟨Nat.le_of_ble_eq_true rfl, Nat.le_of_ble_eq_true rfl⟩) hP hD hS hA [0, 1, 2] [3, 4, 5, 6, 7, 8, 9, 10, 11, 12] (wr := [(xh, .inr (4, [.ref ch, .ref bh, .ref lg, .int (if ¬ (zrun bcc bac bfc blc bf' p1) = -1 ∧ zlg lgd' then lgd' + 1 else lgd'), .ref sh, .ref vh])), (ch, .inr (0, [.ref ca, .int ccc, .int cac, .int cfc, .int clc])), (ca, .inl (cI, 10, .inl cf)), (bh, .inr (0, [.ref ba, .int bcc, .int bac, .int bfc, .int blc])), (ba, .inl (cI, 10, .inl (if ¬ (zrun bcc bac bfc blc bf' p1) = -1 ∧ zlg lgd' then zwr bf' ((zrun bcc bac bfc blc bf' p1) / 10) (zrem (zrun bcc bac bfc blc bf' p1) 10) else bf'))), (lg, .inl (cI, 12, .inl (if ¬ (zrun bcc bac bfc blc bf' p1) = -1 ∧ zlg lgd' then upd lgf' lgd'.toNatClampNeg ((zrun bcc bac bfc blc bf' p1) / 10) else lgf'))), (sh, .inr (2, [.ref sa, .int cnt_11, .int call_11])), (sa, .inl (cI, 12, .inl swf_11)), (vh, .inr (3, [.ref va])), (va, .inl (cI, 12, .inl fnf))]) rfl rfl (by decide) (by decide) (fun u H locs hw hP hD hS => ?_)
        replace hw := hw.symm
        subst hw
        have hP : va_P D vwCl [(xh, .inr (4, [.ref ch, .ref bh, .ref lg, .int (if ¬ (zrun bcc bac bfc blc bf' p1) = -1 ∧ zlg lgd' then lgd' + 1 else lgd'), .ref sh, .ref vh])), (ch, .inr (0, [.ref ca, .int ccc, .int cac, .int cfc, .int clc])), (ca, .inl (cI, 10, .inl cf)), (bh, .inr (0, [.ref ba, .int bcc, .int bac, .int bfc, .int blc])), (ba, .inl (cI, 10, .inl (if ¬ (zrun bcc bac bfc blc bf' p1) = -1 ∧ zlg lgd' then zwr bf' ((zrun bcc bac bfc blc bf' p1) / 10) (zrem (zrun bcc bac bfc blc bf' p1) 10) else bf'))), (lg, .inl (cI, 12, .inl (if ¬ (zrun bcc bac bfc blc bf' p1) = -1 ∧ zlg lgd' then upd lgf' lgd'.toNatClampNeg ((zrun bcc bac bfc blc bf' p1) / 10) else lgf'))), (sh, .inr (2, [.ref sa, .int cnt_11, .int call_11])), (sa, .inl (cI, 12, .inl swf_11)), (vh, .inr (3, [.ref va])), (va, .inl (cI, 12, .inl fnf)), (qb, .inl (cI, 12, .inl (upd fb' (y_12 / 10).toNatClampNeg (y_12 - y_12 / 10 * 10)))), (qg, .inl (cI, 3, .inl (upd fg' 2 (fg' 2 + 1)))), (ql, .inl (cI, 12, .inl (upd fl' (fg' 2).toNatClampNeg (y_12 / 10))))] H := hP
        have hD : va_D A [(xh, .inr (4, [.ref ch, .ref bh, .ref lg, .int (if ¬ (zrun bcc bac bfc blc bf' p1) = -1 ∧ zlg lgd' then lgd' + 1 else lgd'), .ref sh, .ref vh])), (ch, .inr (0, [.ref ca, .int ccc, .int cac, .int cfc, .int clc])), (ca, .inl (cI, 10, .inl cf)), (bh, .inr (0, [.ref ba, .int bcc, .int bac, .int bfc, .int blc])), (ba, .inl (cI, 10, .inl (if ¬ (zrun bcc bac bfc blc bf' p1) = -1 ∧ zlg lgd' then zwr bf' ((zrun bcc bac bfc blc bf' p1) / 10) (zrem (zrun bcc bac bfc blc bf' p1) 10) else bf'))), (lg, .inl (cI, 12, .inl (if ¬ (zrun bcc bac bfc blc bf' p1) = -1 ∧ zlg lgd' then upd lgf' lgd'.toNatClampNeg ((zrun bcc bac bfc blc bf' p1) / 10) else lgf'))), (sh, .inr (2, [.ref sa, .int cnt_11, .int call_11])), (sa, .inl (cI, 12, .inl swf_11)), (vh, .inr (3, [.ref va])), (va, .inl (cI, 12, .inl fnf)), (qb, .inl (cI, 12, .inl (upd fb' (y_12 / 10).toNatClampNeg (y_12 - y_12 / 10 * 10)))), (qg, .inl (cI, 3, .inl (upd fg' 2 (fg' 2 + 1)))), (ql, .inl (cI, 12, .inl (upd fl' (fg' 2).toNatClampNeg (y_12 / 10))))] := hD
        exact L418 _ _ _ _ _ _ _ _ _ _ _ _ _ _ _ _ _ h (Nat.lt_succ_self _) (hP.sub [0, 1, 2, 3, 4, 5, 6, 7, 8, 9, 10, 11, 12] rfl) (hD.sub [0, 1, 2, 3, 4, 5, 6, 7, 8, 9, 10, 11, 12] (by decide) rfl) hS (lv_sub hl [1, 2, 3, 4, 5, 6, 7, 8, 0] rfl)
  have LL33 : ∀ (N : Nat), (∀ (x5 : Int32) (x6 : Int32) (x7 : Int32) (bf' : Nat → Int32) (lgf' : Nat → Int32) (lgd' : Int32) (cnt' : Int32) (call' : Int32) (swf' : Nat → Int32) (fb' : Nat → Int32) (fg' : Nat → Int32) (fl' : Nat → Int32) (H : Heap) (locs : List Loc) (ls : Array Slot), I33 x5 x6 x7 bf' lgf' lgd' cnt' call' swf' fb' fg' fl' → mu33 x5 x6 x7 bf' lgf' lgd' cnt' call' swf' fb' fg' fl' < N → va_P D vwCl [(xh, .inr (4, [.ref ch, .ref bh, .ref lg, .int lgd', .ref sh, .ref vh])), (ch, .inr (0, [.ref ca, .int ccc, .int cac, .int cfc, .int clc])), (ca, .inl (cI, 10, .inl cf)), (bh, .inr (0, [.ref ba, .int bcc, .int bac, .int bfc, .int blc])), (ba, .inl (cI, 10, .inl bf')), (lg, .inl (cI, 12, .inl lgf')), (sh, .inr (2, [.ref sa, .int cnt', .int call'])), (sa, .inl (cI, 12, .inl swf')), (vh, .inr (3, [.ref va])), (va, .inl (cI, 12, .inl fnf)), (qb, .inl (cI, 12, .inl fb')), (qg, .inl (cI, 3, .inl fg')), (ql, .inl (cI, 12, .inl fl'))] H → va_D A [(xh, .inr (4, [.ref ch, .ref bh, .ref lg, .int lgd', .ref sh, .ref vh])), (ch, .inr (0, [.ref ca, .int ccc, .int cac, .int cfc, .int clc])), (ca, .inl (cI, 10, .inl cf)), (bh, .inr (0, [.ref ba, .int bcc, .int bac, .int bfc, .int blc])), (ba, .inl (cI, 10, .inl bf')), (lg, .inl (cI, 12, .inl lgf')), (sh, .inr (2, [.ref sa, .int cnt', .int call'])), (sa, .inl (cI, 12, .inl swf')), (vh, .inr (3, [.ref va])), (va, .inl (cI, 12, .inl fnf)), (qb, .inl (cI, 12, .inl fb')), (qg, .inl (cI, 3, .inl fg')), (ql, .inl (cI, 12, .inl fl'))] → va_S A s.heap H locs → lv_has ls 13 [(0, .ref xh), (1, .int p1), (2, .ref qb), (3, .ref qg), (4, .ref ql), (5, .int x5), (6, .int x6), (7, .int x7)] → W p l e ({ frames := 38, cells := 0, slots := 0, locals := 1026 } : Room) s m args below meth c H locs 0 0 Q (F0 m 33 ls [])) ∧ (∀ (x5 : Int32) (x6 : Int32) (x7 : Int32) (x8 : Int32) (x9 : Int32) (x10 : Int32) (x11 : Int32) (bf' : Nat → Int32) (lgf' : Nat → Int32) (lgd' : Int32) (cnt' : Int32) (call' : Int32) (swf' : Nat → Int32) (fb' : Nat → Int32) (fg' : Nat → Int32) (fl' : Nat → Int32) (H : Heap) (locs : List Loc) (ls : Array Slot), I50 x5 x6 x7 x8 x9 x10 x11 bf' lgf' lgd' cnt' call' swf' fb' fg' fl' → mu50 x5 x6 x7 x8 x9 x10 x11 bf' lgf' lgd' cnt' call' swf' fb' fg' fl' < N → va_P D vwCl [(xh, .inr (4, [.ref ch, .ref bh, .ref lg, .int lgd', .ref sh, .ref vh])), (ch, .inr (0, [.ref ca, .int ccc, .int cac, .int cfc, .int clc])), (ca, .inl (cI, 10, .inl cf)), (bh, .inr (0, [.ref ba, .int bcc, .int bac, .int bfc, .int blc])), (ba, .inl (cI, 10, .inl bf')), (lg, .inl (cI, 12, .inl lgf')), (sh, .inr (2, [.ref sa, .int cnt', .int call'])), (sa, .inl (cI, 12, .inl swf')), (vh, .inr (3, [.ref va])), (va, .inl (cI, 12, .inl fnf)), (qb, .inl (cI, 12, .inl fb')), (qg, .inl (cI, 3, .inl fg')), (ql, .inl (cI, 12, .inl fl'))] H → va_D A [(xh, .inr (4, [.ref ch, .ref bh, .ref lg, .int lgd', .ref sh, .ref vh])), (ch, .inr (0, [.ref ca, .int ccc, .int cac, .int cfc, .int clc])), (ca, .inl (cI, 10, .inl cf)), (bh, .inr (0, [.ref ba, .int bcc, .int bac, .int bfc, .int blc])), (ba, .inl (cI, 10, .inl bf')), (lg, .inl (cI, 12, .inl lgf')), (sh, .inr (2, [.ref sa, .int cnt', .int call'])), (sa, .inl (cI, 12, .inl swf')), (vh, .inr (3, [.ref va])), (va, .inl (cI, 12, .inl fnf)), (qb, .inl (cI, 12, .inl fb')), (qg, .inl (cI, 3, .inl fg')), (ql, .inl (cI, 12, .inl fl'))] → va_S A s.heap H locs → lv_has ls 13 [(0, .ref xh), (1, .int p1), (2, .ref qb), (3, .ref qg), (4, .ref ql), (5, .int x5), (6, .int x6), (7, .int x7), (8, .int x8), (9, .int x9), (10, .int x10), (11, .int x11)] → W p l e ({ frames := 38, cells := 0, slots := 0, locals := 1026 } : Room) s m args below meth c H locs 0 0 Q (F0 m 50 ls [])) ∧ (∀ (x5 : Int32) (x6 : Int32) (x7 : Int32) (x8 : Int32) (x9 : Int32) (x10 : Int32) (x11 : Int32) (bf' : Nat → Int32) (lgf' : Nat → Int32) (lgd' : Int32) (cnt' : Int32) (call' : Int32) (swf' : Nat → Int32) (fb' : Nat → Int32) (fg' : Nat → Int32) (fl' : Nat → Int32) (H : Heap) (locs : List Loc) (ls : Array Slot), I107 x5 x6 x7 x8 x9 x10 x11 bf' lgf' lgd' cnt' call' swf' fb' fg' fl' → mu107 x5 x6 x7 x8 x9 x10 x11 bf' lgf' lgd' cnt' call' swf' fb' fg' fl' < N → va_P D vwCl [(xh, .inr (4, [.ref ch, .ref bh, .ref lg, .int lgd', .ref sh, .ref vh])), (ch, .inr (0, [.ref ca, .int ccc, .int cac, .int cfc, .int clc])), (ca, .inl (cI, 10, .inl cf)), (bh, .inr (0, [.ref ba, .int bcc, .int bac, .int bfc, .int blc])), (ba, .inl (cI, 10, .inl bf')), (lg, .inl (cI, 12, .inl lgf')), (sh, .inr (2, [.ref sa, .int cnt', .int call'])), (sa, .inl (cI, 12, .inl swf')), (vh, .inr (3, [.ref va])), (va, .inl (cI, 12, .inl fnf)), (qb, .inl (cI, 12, .inl fb')), (qg, .inl (cI, 3, .inl fg')), (ql, .inl (cI, 12, .inl fl'))] H → va_D A [(xh, .inr (4, [.ref ch, .ref bh, .ref lg, .int lgd', .ref sh, .ref vh])), (ch, .inr (0, [.ref ca, .int ccc, .int cac, .int cfc, .int clc])), (ca, .inl (cI, 10, .inl cf)), (bh, .inr (0, [.ref ba, .int bcc, .int bac, .int bfc, .int blc])), (ba, .inl (cI, 10, .inl bf')), (lg, .inl (cI, 12, .inl lgf')), (sh, .inr (2, [.ref sa, .int cnt', .int call'])), (sa, .inl (cI, 12, .inl swf')), (vh, .inr (3, [.ref va])), (va, .inl (cI, 12, .inl fnf)), (qb, .inl (cI, 12, .inl fb')), (qg, .inl (cI, 3, .inl fg')), (ql, .inl (cI, 12, .inl fl'))] → va_S A s.heap H locs → lv_has ls 13 [(0, .ref xh), (1, .int p1), (2, .ref qb), (3, .ref qg), (4, .ref ql), (5, .int x5), (6, .int x6), (7, .int x7), (8, .int x8), (9, .int x9), (10, .int x10), (11, .int x11)] → W p l e ({ frames := 38, cells := 0, slots := 0, locals := 1026 } : Room) s m args below meth c H locs 0 0 Q (F0 m 107 ls [])) ∧ (∀ (x5 : Int32) (x6 : Int32) (x7 : Int32) (x8 : Int32) (x9 : Int32) (x10 : Int32) (x11 : Int32) (bf' : Nat → Int32) (lgf' : Nat → Int32) (lgd' : Int32) (cnt' : Int32) (call' : Int32) (swf' : Nat → Int32) (fb' : Nat → Int32) (fg' : Nat → Int32) (fl' : Nat → Int32) (H : Heap) (locs : List Loc) (ls : Array Slot), I230 x5 x6 x7 x8 x9 x10 x11 bf' lgf' lgd' cnt' call' swf' fb' fg' fl' → mu230 x5 x6 x7 x8 x9 x10 x11 bf' lgf' lgd' cnt' call' swf' fb' fg' fl' < N → va_P D vwCl [(xh, .inr (4, [.ref ch, .ref bh, .ref lg, .int lgd', .ref sh, .ref vh])), (ch, .inr (0, [.ref ca, .int ccc, .int cac, .int cfc, .int clc])), (ca, .inl (cI, 10, .inl cf)), (bh, .inr (0, [.ref ba, .int bcc, .int bac, .int bfc, .int blc])), (ba, .inl (cI, 10, .inl bf')), (lg, .inl (cI, 12, .inl lgf')), (sh, .inr (2, [.ref sa, .int cnt', .int call'])), (sa, .inl (cI, 12, .inl swf')), (vh, .inr (3, [.ref va])), (va, .inl (cI, 12, .inl fnf)), (qb, .inl (cI, 12, .inl fb')), (qg, .inl (cI, 3, .inl fg')), (ql, .inl (cI, 12, .inl fl'))] H → va_D A [(xh, .inr (4, [.ref ch, .ref bh, .ref lg, .int lgd', .ref sh, .ref vh])), (ch, .inr (0, [.ref ca, .int ccc, .int cac, .int cfc, .int clc])), (ca, .inl (cI, 10, .inl cf)), (bh, .inr (0, [.ref ba, .int bcc, .int bac, .int bfc, .int blc])), (ba, .inl (cI, 10, .inl bf')), (lg, .inl (cI, 12, .inl lgf')), (sh, .inr (2, [.ref sa, .int cnt', .int call'])), (sa, .inl (cI, 12, .inl swf')), (vh, .inr (3, [.ref va])), (va, .inl (cI, 12, .inl fnf)), (qb, .inl (cI, 12, .inl fb')), (qg, .inl (cI, 3, .inl fg')), (ql, .inl (cI, 12, .inl fl'))] → va_S A s.heap H locs → lv_has ls 13 [(0, .ref xh), (1, .int p1), (2, .ref qb), (3, .ref qg), (4, .ref ql), (5, .int x5), (6, .int x6), (7, .int x7), (8, .int x8), (9, .int x9), (10, .int x10), (11, .int x11)] → W p l e ({ frames := 38, cells := 0, slots := 0, locals := 1026 } : Room) s m args below meth c H locs 0 0 Q (F0 m 230 ls [])) := by
    intro N
    induction N with
    | zero => exact ⟨by intros; rename_i hz _ _ _ _; exact absurd hz (Nat.not_lt_zero _), by intros; rename_i hz _ _ _ _; exact absurd hz (Nat.not_lt_zero _), by intros; rename_i hz _ _ _ _; exact absurd hz (Nat.not_lt_zero _), by intros; rename_i hz _ _ _ _; exact absurd hz (Nat.not_lt_zero _)⟩
    | succ N ih =>
      refine ⟨?_, ?_, ?_, ?_⟩
      · intro x5 x6 x7 bf' lgf' lgd' cnt' call' swf' fb' fg' fl' H locs ls hI hmu hP hD hS hl
        have h := hv33 x5 x6 x7 bf' lgf' lgd' cnt' call' swf' fb' fg' fl' hI
        unfold vs_L_runs_33 at h
        refine lv_iload hx hb dL_runs_33 (lv_at hl 7 rfl) ?_
        refine lv_if_lt (tgt := 352) hx hb dL_runs_35 (by decide) (fun c_15 => ?_) (fun c_15 => ?_)
        · have h := h.1 c_15
          refine lv_aload_n hx hb dL_runs_352 rfl (lv_at hl 3 rfl) ?_
          refine lv_iconst (v := 0) hx hb dL_runs_353 (by decide) ?_
          refine ff_ialdK hx hb hK hP 11 0 rfl rfl (vp_in_nI (n := 0) (N := 3) (by decide) (by decide)) (k := 0) rfl dL_runs_354 ?_
          refine lv_aload_n hx hb dL_runs_355 rfl (lv_at hl 3 rfl) ?_
          refine lv_iconst (v := 1) hx hb dL_runs_356 (by decide) ?_
          refine ff_ialdK hx hb hK hP 11 0 rfl rfl (vp_in_nI (n := 1) (N := 3) (by decide) (by decide)) (k := 1) rfl dL_runs_357 ?_
          refine lv_imul hx hb dL_runs_358 ?_
          refine lv_bipush (v := 9) hx hb dL_runs_359 (by decide) ?_
          refine lv_icmp_le (tgt := 382) hx hb dL_runs_361 (by decide) (fun c_16 => ?_) (fun c_16 => ?_)
          · have h := h.1 c_16
            refine lv_aload_n hx hb dL_runs_382 rfl (lv_at hl 0 rfl) ?_
            refine lv_iconst (v := 5) hx hb dL_runs_383 (by decide) ?_
            obtain ⟨p_17, h⟩ := h
            have hPc := hP.sub (ws' := [(xh, .inr (4, [.ref ch, .ref bh, .ref lg, .int lgd', .ref sh, .ref vh])), (ch, .inr (0, [.ref ca, .int ccc, .int cac, .int cfc, .int clc])), (ca, .inl (cI, 10, .inl cf)), (bh, .inr (0, [.ref ba, .int bcc, .int bac, .int bfc, .int blc])), (ba, .inl (cI, 10, .inl bf')), (lg, .inl (cI, 12, .inl lgf')), (sh, .inr (2, [.ref sa, .int cnt', .int call'])), (sa, .inl (cI, 12, .inl swf')), (vh, .inr (3, [.ref va])), (va, .inl (cI, 12, .inl fnf))]) [0, 1, 2, 3, 4, 5, 6, 7, 8, 9] rfl
            have hDc := hD.sub (ws' := [(xh, .inr (4, [.ref ch, .ref bh, .ref lg, .int lgd', .ref sh, .ref vh])), (ch, .inr (0, [.ref ca, .int ccc, .int cac, .int cfc, .int clc])), (ca, .inl (cI, 10, .inl cf)), (bh, .inr (0, [.ref ba, .int bcc, .int bac, .int bfc, .int blc])), (ba, .inl (cI, 10, .inl bf')), (lg, .inl (cI, 12, .inl lgf')), (sh, .inr (2, [.ref sa, .int cnt', .int call'])), (sa, .inl (cI, 12, .inl swf')), (vh, .inr (3, [.ref va])), (va, .inl (cI, 12, .inl fnf))]) [0, 1, 2, 3, 4, 5, 6, 7, 8, 9] (by decide) rfl
            refine ff_callI (va_runV (As := [.int 5]) (rest := []) ⟨hx, hb, hml, hown, hts⟩ (c_X4_solutionsN l D cI xh ch ca bh ba lg sh sa vh va H.size lgd' ccc cac cfc clc cf bcc bac bfc blc bf' lgf' cnt' call' swf' fnf 5 p_17) (cwV 1 hts gL_runs_X4_solutions rfl rfl rfl (by decide +kernel) ⟨Nat.le_of_ble_eq_true rfl, Nat.le_of_ble_eq_true rfl⟩) (ff_preV (q := (RX4, TX4, 6)) (ci := 4) (q0 := 0) hPc hK hDc hN rfl rfl) rfl rfl hl.1 rfl (lv_room (Nat.le_of_ble_eq_true rfl)) dL_runs_384 ⟨Nat.le_of_ble_eq_true rfl, Nat.le_of_ble_eq_true rfl⟩) hP hD hS hA [0, 1, 2, 3, 4, 5, 6, 7, 8, 9] [10, 11, 12] (wr := [(qb, .inl (cI, 12, .inl fb')), (qg, .inl (cI, 3, .inl fg')), (ql, .inl (cI, 12, .inl fl'))]) rfl rfl (by decide) (by decide) (fun r u H locs hw hP hD hS => ?_)
            obtain ⟨e0_w, e1_w⟩ := hw
            replace e0_w := e0_w.symm
            subst e0_w
            replace e1_w := e1_w.symm
            subst e1_w
            have hP : va_P D vwCl [(qb, .inl (cI, 12, .inl fb')), (qg, .inl (cI, 3, .inl fg')), (ql, .inl (cI, 12, .inl fl')), (xh, .inr (4, [.ref ch, .ref bh, .ref lg, .int lgd', .ref sh, .ref vh])), (ch, .inr (0, [.ref ca, .int ccc, .int cac, .int cfc, .int clc])), (ca, .inl (cI, 10, .inl cf)), (bh, .inr (0, [.ref ba, .int bcc, .int bac, .int bfc, .int blc])), (ba, .inl (cI, 10, .inl bf')), (lg, .inl (cI, 12, .inl lgf')), (sh, .inr (2, [.ref sa, .int cnt', .int call'])), (sa, .inl (cI, 12, .inl swf')), (vh, .inr (3, [.ref va])), (va, .inl (cI, 12, .inl fnf))] H := hP
            have hD : va_D A [(qb, .inl (cI, 12, .inl fb')), (qg, .inl (cI, 3, .inl fg')), (ql, .inl (cI, 12, .inl fl')), (xh, .inr (4, [.ref ch, .ref bh, .ref lg, .int lgd', .ref sh, .ref vh])), (ch, .inr (0, [.ref ca, .int ccc, .int cac, .int cfc, .int clc])), (ca, .inl (cI, 10, .inl cf)), (bh, .inr (0, [.ref ba, .int bcc, .int bac, .int bfc, .int blc])), (ba, .inl (cI, 10, .inl bf')), (lg, .inl (cI, 12, .inl lgf')), (sh, .inr (2, [.ref sa, .int cnt', .int call'])), (sa, .inl (cI, 12, .inl swf')), (vh, .inr (3, [.ref va])), (va, .inl (cI, 12, .inl fnf))] := hD
            refine lv_topi (fun y_18 ey_18 => ?_)
            have h := h y_18 ey_18
            refine lv_istore (lv' := [(7, .int y_18), (0, .ref xh), (1, .int p1), (2, .ref qb), (3, .ref qg), (4, .ref ql), (5, .int x5), (6, .int x6)]) hx hb dL_runs_387 hl (by decide) rfl (fun ls hl => ?_)
            exact L389 _ _ _ _ _ _ _ _ _ _ _ _ _ _ _ _ h (Nat.lt_succ_self _) (hP.sub [3, 4, 5, 6, 7, 8, 9, 10, 11, 12, 0, 1, 2] rfl) (hD.sub [3, 4, 5, 6, 7, 8, 9, 10, 11, 12, 0, 1, 2] (by decide) rfl) hS (lv_sub hl [1, 2, 3, 4, 5, 6, 7, 0] rfl)
          · have h := h.2 c_16
            refine lv_aload_n hx hb dL_runs_364 rfl (lv_at hl 2 rfl) ?_
            refine lv_aload_n hx hb dL_runs_365 rfl (lv_at hl 3 rfl) ?_
            refine lv_iconst (v := 0) hx hb dL_runs_366 (by decide) ?_
            obtain ⟨p_19, h⟩ := h
            have hPc := hP.sub (ws' := [(qb, .inl (cI, 12, .inl fb')), (qg, .inl (cI, 3, .inl fg'))]) [10, 11] rfl
            have hDc := hD.sub (ws' := [(qb, .inl (cI, 12, .inl fb')), (qg, .inl (cI, 3, .inl fg'))]) [10, 11] (by decide) rfl
            refine ff_callI (va_runS (As := [.ref qb, .ref qg, .int 0]) (rest := []) ⟨hx, hb, hml, hown, hts⟩ (c_L_cellsOf l D cI qb qg H.size fb' fg' 0 p_19) (va_cwS 3 hts gL_runs_L_cellsOf rfl rfl rfl (by decide +kernel) ⟨Nat.le_of_ble_eq_true rfl, Nat.le_of_ble_eq_true rfl⟩) (ff_preS hPc hK hDc hN) rfl rfl hl.1 rfl (lv_room (Nat.le_of_ble_eq_true rfl)) dL_runs_367 ⟨Nat.le_of_ble_eq_true rfl, Nat.le_of_ble_eq_true rfl⟩) hP hD hS hA [10, 11] [0, 1, 2, 3, 4, 5, 6, 7, 8, 9, 12] (wr := [(xh, .inr (4, [.ref ch, .ref bh, .ref lg, .int lgd', .ref sh, .ref vh])), (ch, .inr (0, [.ref ca, .int ccc, .int cac, .int cfc, .int clc])), (ca, .inl (cI, 10, .inl cf)), (bh, .inr (0, [.ref ba, .int bcc, .int bac, .int bfc, .int blc])), (ba, .inl (cI, 10, .inl bf')), (lg, .inl (cI, 12, .inl lgf')), (sh, .inr (2, [.ref sa, .int cnt', .int call'])), (sa, .inl (cI, 12, .inl swf')), (vh, .inr (3, [.ref va])), (va, .inl (cI, 12, .inl fnf)), (ql, .inl (cI, 12, .inl fl'))]) rfl rfl (by decide) (by decide) (fun r u H locs hw hP hD hS => ?_)
            replace hw := hw.symm
            subst hw
            have hP : va_P D vwCl [(xh, .inr (4, [.ref ch, .ref bh, .ref lg, .int lgd', .ref sh, .ref vh])), (ch, .inr (0, [.ref ca, .int ccc, .int cac, .int cfc, .int clc])), (ca, .inl (cI, 10, .inl cf)), (bh, .inr (0, [.ref ba, .int bcc, .int bac, .int bfc, .int blc])), (ba, .inl (cI, 10, .inl bf')), (lg, .inl (cI, 12, .inl lgf')), (sh, .inr (2, [.ref sa, .int cnt', .int call'])), (sa, .inl (cI, 12, .inl swf')), (vh, .inr (3, [.ref va])), (va, .inl (cI, 12, .inl fnf)), (ql, .inl (cI, 12, .inl fl')), (qb, .inl (cI, 12, .inl fb')), (qg, .inl (cI, 3, .inl fg'))] H := hP
            have hD : va_D A [(xh, .inr (4, [.ref ch, .ref bh, .ref lg, .int lgd', .ref sh, .ref vh])), (ch, .inr (0, [.ref ca, .int ccc, .int cac, .int cfc, .int clc])), (ca, .inl (cI, 10, .inl cf)), (bh, .inr (0, [.ref ba, .int bcc, .int bac, .int bfc, .int blc])), (ba, .inl (cI, 10, .inl bf')), (lg, .inl (cI, 12, .inl lgf')), (sh, .inr (2, [.ref sa, .int cnt', .int call'])), (sa, .inl (cI, 12, .inl swf')), (vh, .inr (3, [.ref va])), (va, .inl (cI, 12, .inl fnf)), (ql, .inl (cI, 12, .inl fl')), (qb, .inl (cI, 12, .inl fb')), (qg, .inl (cI, 3, .inl fg'))] := hD
            obtain ⟨p_20, h⟩ := h
            have hPc := hP.sub (ws' := []) [] rfl
            have hDc := hD.sub (ws' := []) [] (by decide) rfl
            refine ff_callI (va_runS (As := [.int (lco fb' 0 (mN (fg' 0) (fg' 1)))]) (rest := []) ⟨hx, hb, hml, hown, hts⟩ (c_L_many l D cI H.size (lco fb' 0 (mN (fg' 0) (fg' 1))) p_20) (va_cwS 1 hts gL_runs_L_many rfl rfl rfl (by decide +kernel) ⟨Nat.le_of_ble_eq_true rfl, Nat.le_of_ble_eq_true rfl⟩) (ff_preS hPc hK hDc hN) rfl rfl hl.1 rfl (lv_room (Nat.le_of_ble_eq_true rfl)) dL_runs_370 ⟨Nat.le_of_ble_eq_true rfl, Nat.le_of_ble_eq_true rfl⟩) hP hD hS hA [] [0, 1, 2, 3, 4, 5, 6, 7, 8, 9, 10, 11, 12] (wr := [(xh, .inr (4, [.ref ch, .ref bh, .ref lg, .int lgd', .ref sh, .ref vh])), (ch, .inr (0, [.ref ca, .int ccc, .int cac, .int cfc, .int clc])), (ca, .inl (cI, 10, .inl cf)), (bh, .inr (0, [.ref ba, .int bcc, .int bac, .int bfc, .int blc])), (ba, .inl (cI, 10, .inl bf')), (lg, .inl (cI, 12, .inl lgf')), (sh, .inr (2, [.ref sa, .int cnt', .int call'])), (sa, .inl (cI, 12, .inl swf')), (vh, .inr (3, [.ref va])), (va, .inl (cI, 12, .inl fnf)), (ql, .inl (cI, 12, .inl fl')), (qb, .inl (cI, 12, .inl fb')), (qg, .inl (cI, 3, .inl fg'))]) rfl rfl (by decide) (by decide) (fun r u H locs hw hP hD hS => ?_)
            replace hw := hw.symm
            subst hw
            have hP : va_P D vwCl [(xh, .inr (4, [.ref ch, .ref bh, .ref lg, .int lgd', .ref sh, .ref vh])), (ch, .inr (0, [.ref ca, .int ccc, .int cac, .int cfc, .int clc])), (ca, .inl (cI, 10, .inl cf)), (bh, .inr (0, [.ref ba, .int bcc, .int bac, .int bfc, .int blc])), (ba, .inl (cI, 10, .inl bf')), (lg, .inl (cI, 12, .inl lgf')), (sh, .inr (2, [.ref sa, .int cnt', .int call'])), (sa, .inl (cI, 12, .inl swf')), (vh, .inr (3, [.ref va])), (va, .inl (cI, 12, .inl fnf)), (ql, .inl (cI, 12, .inl fl')), (qb, .inl (cI, 12, .inl fb')), (qg, .inl (cI, 3, .inl fg'))] H := hP
            have hD : va_D A [(xh, .inr (4, [.ref ch, .ref bh, .ref lg, .int lgd', .ref sh, .ref vh])), (ch, .inr (0, [.ref ca, .int ccc, .int cac, .int cfc, .int clc])), (ca, .inl (cI, 10, .inl cf)), (bh, .inr (0, [.ref ba, .int bcc, .int bac, .int bfc, .int blc])), (ba, .inl (cI, 10, .inl bf')), (lg, .inl (cI, 12, .inl lgf')), (sh, .inr (2, [.ref sa, .int cnt', .int call'])), (sa, .inl (cI, 12, .inl swf')), (vh, .inr (3, [.ref va])), (va, .inl (cI, 12, .inl fnf)), (ql, .inl (cI, 12, .inl fl')), (qb, .inl (cI, 12, .inl fb')), (qg, .inl (cI, 3, .inl fg'))] := hD
            refine lv_bipush (v := 7) hx hb dL_runs_373 (by decide) ?_
            refine lv_icmp_le (tgt := 382) hx hb dL_runs_375 (by decide) (fun c_21 => ?_) (fun c_21 => ?_)
            · have h := h.1 c_21
              refine lv_aload_n hx hb dL_runs_382 rfl (lv_at hl 0 rfl) ?_
              refine lv_iconst (v := 5) hx hb dL_runs_383 (by decide) ?_
              obtain ⟨p_22, h⟩ := h
              have hPc := hP.sub (ws' := [(xh, .inr (4, [.ref ch, .ref bh, .ref lg, .int lgd', .ref sh, .ref vh])), (ch, .inr (0, [.ref ca, .int ccc, .int cac, .int cfc, .int clc])), (ca, .inl (cI, 10, .inl cf)), (bh, .inr (0, [.ref ba, .int bcc, .int bac, .int bfc, .int blc])), (ba, .inl (cI, 10, .inl bf')), (lg, .inl (cI, 12, .inl lgf')), (sh, .inr (2, [.ref sa, .int cnt', .int call'])), (sa, .inl (cI, 12, .inl swf')), (vh, .inr (3, [.ref va])), (va, .inl (cI, 12, .inl fnf))]) [0, 1, 2, 3, 4, 5, 6, 7, 8, 9] rfl
              have hDc := hD.sub (ws' := [(xh, .inr (4, [.ref ch, .ref bh, .ref lg, .int lgd', .ref sh, .ref vh])), (ch, .inr (0, [.ref ca, .int ccc, .int cac, .int cfc, .int clc])), (ca, .inl (cI, 10, .inl cf)), (bh, .inr (0, [.ref ba, .int bcc, .int bac, .int bfc, .int blc])), (ba, .inl (cI, 10, .inl bf')), (lg, .inl (cI, 12, .inl lgf')), (sh, .inr (2, [.ref sa, .int cnt', .int call'])), (sa, .inl (cI, 12, .inl swf')), (vh, .inr (3, [.ref va])), (va, .inl (cI, 12, .inl fnf))]) [0, 1, 2, 3, 4, 5, 6, 7, 8, 9] (by decide) rfl
              refine ff_callI (va_runV (As := [.int 5]) (rest := []) ⟨hx, hb, hml, hown, hts⟩ (c_X4_solutionsN l D cI xh ch ca bh ba lg sh sa vh va H.size lgd' ccc cac cfc clc cf bcc bac bfc blc bf' lgf' cnt' call' swf' fnf 5 p_22) (cwV 1 hts gL_runs_X4_solutions rfl rfl rfl (by decide +kernel) ⟨Nat.le_of_ble_eq_true rfl, Nat.le_of_ble_eq_true rfl⟩) (ff_preV (q := (RX4, TX4, 6)) (ci := 4) (q0 := 0) hPc hK hDc hN rfl rfl) rfl rfl hl.1 rfl (lv_room (Nat.le_of_ble_eq_true rfl)) dL_runs_384 ⟨Nat.le_of_ble_eq_true rfl, Nat.le_of_ble_eq_true rfl⟩) hP hD hS hA [0, 1, 2, 3, 4, 5, 6, 7, 8, 9] [10, 11, 12] (wr := [(ql, .inl (cI, 12, .inl fl')), (qb, .inl (cI, 12, .inl fb')), (qg, .inl (cI, 3, .inl fg'))]) rfl rfl (by decide) (by decide) (fun r u H locs hw hP hD hS => ?_)
              obtain ⟨e0_w, e1_w⟩ := hw
              replace e0_w := e0_w.symm
              subst e0_w
              replace e1_w := e1_w.symm
              subst e1_w
              have hP : va_P D vwCl [(ql, .inl (cI, 12, .inl fl')), (qb, .inl (cI, 12, .inl fb')), (qg, .inl (cI, 3, .inl fg')), (xh, .inr (4, [.ref ch, .ref bh, .ref lg, .int lgd', .ref sh, .ref vh])), (ch, .inr (0, [.ref ca, .int ccc, .int cac, .int cfc, .int clc])), (ca, .inl (cI, 10, .inl cf)), (bh, .inr (0, [.ref ba, .int bcc, .int bac, .int bfc, .int blc])), (ba, .inl (cI, 10, .inl bf')), (lg, .inl (cI, 12, .inl lgf')), (sh, .inr (2, [.ref sa, .int cnt', .int call'])), (sa, .inl (cI, 12, .inl swf')), (vh, .inr (3, [.ref va])), (va, .inl (cI, 12, .inl fnf))] H := hP
              have hD : va_D A [(ql, .inl (cI, 12, .inl fl')), (qb, .inl (cI, 12, .inl fb')), (qg, .inl (cI, 3, .inl fg')), (xh, .inr (4, [.ref ch, .ref bh, .ref lg, .int lgd', .ref sh, .ref vh])), (ch, .inr (0, [.ref ca, .int ccc, .int cac, .int cfc, .int clc])), (ca, .inl (cI, 10, .inl cf)), (bh, .inr (0, [.ref ba, .int bcc, .int bac, .int bfc, .int blc])), (ba, .inl (cI, 10, .inl bf')), (lg, .inl (cI, 12, .inl lgf')), (sh, .inr (2, [.ref sa, .int cnt', .int call'])), (sa, .inl (cI, 12, .inl swf')), (vh, .inr (3, [.ref va])), (va, .inl (cI, 12, .inl fnf))] := hD
              refine lv_topi (fun y_23 ey_23 => ?_)
              have h := h y_23 ey_23
              refine lv_istore (lv' := [(7, .int y_23), (0, .ref xh), (1, .int p1), (2, .ref qb), (3, .ref qg), (4, .ref ql), (5, .int x5), (6, .int x6)]) hx hb dL_runs_387 hl (by decide) rfl (fun ls hl => ?_)
              exact L389 _ _ _ _ _ _ _ _ _ _ _ _ _ _ _ _ h (Nat.lt_succ_self _) (hP.sub [3, 4, 5, 6, 7, 8, 9, 10, 11, 12, 1, 2, 0] rfl) (hD.sub [3, 4, 5, 6, 7, 8, 9, 10, 11, 12, 1, 2, 0] (by decide) rfl) hS (lv_sub hl [1, 2, 3, 4, 5, 6, 7, 0] rfl)
            · have h := h.2 c_21
              refine lv_iconst (v := (-1)) hx hb dL_runs_378 (by decide) ?_
              refine lv_goto (tgt := 387) hx hb dL_runs_379 (by decide) ?_
              refine lv_istore (lv' := [(7, .int (-1)), (0, .ref xh), (1, .int p1), (2, .ref qb), (3, .ref qg), (4, .ref ql), (5, .int x5), (6, .int x6)]) hx hb dL_runs_387 hl (by decide) rfl (fun ls hl => ?_)
              exact L389 _ _ _ _ _ _ _ _ _ _ _ _ _ _ _ _ h (Nat.lt_succ_self _) (hP.sub [0, 1, 2, 3, 4, 5, 6, 7, 8, 9, 11, 12, 10] rfl) (hD.sub [0, 1, 2, 3, 4, 5, 6, 7, 8, 9, 11, 12, 10] (by decide) rfl) hS (lv_sub hl [1, 2, 3, 4, 5, 6, 7, 0] rfl)
        · have h := h.2 c_15
          refine lv_iconst (v := 0) hx hb dL_runs_38 (by decide) ?_
          refine lv_istore (lv' := [(8, .int 0), (0, .ref xh), (1, .int p1), (2, .ref qb), (3, .ref qg), (4, .ref ql), (5, .int x5), (6, .int x6), (7, .int x7)]) hx hb dL_runs_39 hl (by decide) rfl (fun ls hl => ?_)
          refine lv_iconst (v := 0) hx hb dL_runs_41 (by decide) ?_
          refine lv_istore (lv' := [(9, .int 0), (8, .int 0), (0, .ref xh), (1, .int p1), (2, .ref qb), (3, .ref qg), (4, .ref ql), (5, .int x5), (6, .int x6), (7, .int x7)]) hx hb dL_runs_42 hl (by decide) rfl (fun ls hl => ?_)
          refine lv_iconst (v := 0) hx hb dL_runs_44 (by decide) ?_
          refine lv_istore (lv' := [(10, .int 0), (9, .int 0), (8, .int 0), (0, .ref xh), (1, .int p1), (2, .ref qb), (3, .ref qg), (4, .ref ql), (5, .int x5), (6, .int x6), (7, .int x7)]) hx hb dL_runs_45 hl (by decide) rfl (fun ls hl => ?_)
          refine lv_iconst (v := 1) hx hb dL_runs_47 (by decide) ?_
          refine lv_istore (lv' := [(11, .int 1), (10, .int 0), (9, .int 0), (8, .int 0), (0, .ref xh), (1, .int p1), (2, .ref qb), (3, .ref qg), (4, .ref ql), (5, .int x5), (6, .int x6), (7, .int x7)]) hx hb dL_runs_48 hl (by decide) rfl (fun ls hl => ?_)
          exact ih.2.1 _ _ _ _ _ _ _ _ _ _ _ _ _ _ _ _ _ _ _ h.1 (Nat.lt_of_lt_of_le h.2 (Nat.le_of_lt_succ hmu)) (hP.sub [0, 1, 2, 3, 4, 5, 6, 7, 8, 9, 10, 11, 12] rfl) (hD.sub [0, 1, 2, 3, 4, 5, 6, 7, 8, 9, 10, 11, 12] (by decide) rfl) hS (lv_sub hl [4, 5, 6, 7, 8, 9, 10, 11, 3, 2, 1, 0] rfl)
      · intro x5 x6 x7 x8 x9 x10 x11 bf' lgf' lgd' cnt' call' swf' fb' fg' fl' H locs ls hI hmu hP hD hS hl
        have h := hv50 x5 x6 x7 x8 x9 x10 x11 bf' lgf' lgd' cnt' call' swf' fb' fg' fl' hI
        unfold vs_L_runs_50 at h
        refine lv_iload hx hb dL_runs_50 (lv_at hl 11 rfl) ?_
        refine lv_bipush (v := 10) hx hb dL_runs_52 (by decide) ?_
        refine lv_icmp_ge (tgt := 104) hx hb dL_runs_54 (by decide) (fun c_24 => ?_) (fun c_24 => ?_)
        · have h := h.1 c_24
          refine lv_iconst (v := 0) hx hb dL_runs_104 (by decide) ?_
          refine lv_istore (lv' := [(11, .int 0), (0, .ref xh), (1, .int p1), (2, .ref qb), (3, .ref qg), (4, .ref ql), (5, .int x5), (6, .int x6), (7, .int x7), (8, .int x8), (9, .int x9), (10, .int x10)]) hx hb dL_runs_105 hl (by decide) rfl (fun ls hl => ?_)
          exact ih.2.2.1 _ _ _ _ _ _ _ _ _ _ _ _ _ _ _ _ _ _ _ h.1 (Nat.lt_of_lt_of_le h.2 (Nat.le_of_lt_succ hmu)) (hP.sub [0, 1, 2, 3, 4, 5, 6, 7, 8, 9, 10, 11, 12] rfl) (hD.sub [0, 1, 2, 3, 4, 5, 6, 7, 8, 9, 10, 11, 12] (by decide) rfl) hS (lv_sub hl [1, 2, 3, 4, 5, 6, 7, 8, 9, 10, 11, 0] rfl)
        · have h := h.2 c_24
          refine lv_iload hx hb dL_runs_57 (lv_at hl 8 rfl) ?_
          refine lv_aload_n hx hb dL_runs_59 rfl (lv_at hl 0 rfl) ?_
          refine lv_iload hx hb dL_runs_60 (lv_at hl 7 rfl) ?_
          refine lv_iload hx hb dL_runs_62 (lv_at hl 11 rfl) ?_
          obtain ⟨p_25, h⟩ := h
          have hPc := hP.sub (ws' := [(xh, .inr (4, [.ref ch, .ref bh, .ref lg, .int lgd', .ref sh, .ref vh])), (ch, .inr (0, [.ref ca, .int ccc, .int cac, .int cfc, .int clc])), (ca, .inl (cI, 10, .inl cf)), (bh, .inr (0, [.ref ba, .int bcc, .int bac, .int bfc, .int blc])), (ba, .inl (cI, 10, .inl bf')), (lg, .inl (cI, 12, .inl lgf')), (sh, .inr (2, [.ref sa, .int cnt', .int call'])), (sa, .inl (cI, 12, .inl swf')), (vh, .inr (3, [.ref va])), (va, .inl (cI, 12, .inl fnf))]) [0, 1, 2, 3, 4, 5, 6, 7, 8, 9] rfl
          have hDc := hD.sub (ws' := [(xh, .inr (4, [.ref ch, .ref bh, .ref lg, .int lgd', .ref sh, .ref vh])), (ch, .inr (0, [.ref ca, .int ccc, .int cac, .int cfc, .int clc])), (ca, .inl (cI, 10, .inl cf)), (bh, .inr (0, [.ref ba, .int bcc, .int bac, .int bfc, .int blc])), (ba, .inl (cI, 10, .inl bf')), (lg, .inl (cI, 12, .inl lgf')), (sh, .inr (2, [.ref sa, .int cnt', .int call'])), (sa, .inl (cI, 12, .inl swf')), (vh, .inr (3, [.ref va])), (va, .inl (cI, 12, .inl fnf))]) [0, 1, 2, 3, 4, 5, 6, 7, 8, 9] (by decide) rfl
          refine ff_callI (va_runV (As := [.int x7, .int x11]) (rest := [.int x8]) ⟨hx, hb, hml, hown, hts⟩ (c_X4_canBeN l D cI xh ch ca bh ba lg sh sa vh va H.size lgd' ccc cac cfc clc cf bcc bac bfc blc bf' lgf' cnt' call' swf' fnf x7 x11 p_25) (cwV 2 hts gL_runs_X4_canBe rfl rfl rfl (by decide +kernel) ⟨Nat.le_of_ble_eq_true rfl, Nat.le_of_ble_eq_true rfl⟩) (ff_preV (q := (RX4, TX4, 6)) (ci := 4) (q0 := 0) hPc hK hDc hN rfl rfl) rfl rfl hl.1 rfl (lv_room (Nat.le_of_ble_eq_true rfl)) dL_runs_64 ⟨Nat.le_of_ble_eq_true rfl, Nat.le_of_ble_eq_true rfl⟩) hP hD hS hA [0, 1, 2, 3, 4, 5, 6, 7, 8, 9] [10, 11, 12] (wr := [(qb, .inl (cI, 12, .inl fb')), (qg, .inl (cI, 3, .inl fg')), (ql, .inl (cI, 12, .inl fl'))]) rfl rfl (by decide) (by decide) (fun r u H locs hw hP hD hS => ?_)
          obtain ⟨e0_w, e1_w⟩ := hw
          replace e0_w := e0_w.symm
          subst e0_w
          replace e1_w := e1_w.symm
          subst e1_w
          have hP : va_P D vwCl [(qb, .inl (cI, 12, .inl fb')), (qg, .inl (cI, 3, .inl fg')), (ql, .inl (cI, 12, .inl fl')), (xh, .inr (4, [.ref ch, .ref bh, .ref lg, .int lgd', .ref sh, .ref vh])), (ch, .inr (0, [.ref ca, .int ccc, .int cac, .int cfc, .int clc])), (ca, .inl (cI, 10, .inl cf)), (bh, .inr (0, [.ref ba, .int bcc, .int bac, .int bfc, .int blc])), (ba, .inl (cI, 10, .inl bf')), (lg, .inl (cI, 12, .inl lgf')), (sh, .inr (2, [.ref sa, .int cnt', .int call'])), (sa, .inl (cI, 12, .inl swf')), (vh, .inr (3, [.ref va])), (va, .inl (cI, 12, .inl fnf))] H := hP
          have hD : va_D A [(qb, .inl (cI, 12, .inl fb')), (qg, .inl (cI, 3, .inl fg')), (ql, .inl (cI, 12, .inl fl')), (xh, .inr (4, [.ref ch, .ref bh, .ref lg, .int lgd', .ref sh, .ref vh])), (ch, .inr (0, [.ref ca, .int ccc, .int cac, .int cfc, .int clc])), (ca, .inl (cI, 10, .inl cf)), (bh, .inr (0, [.ref ba, .int bcc, .int bac, .int bfc, .int blc])), (ba, .inl (cI, 10, .inl bf')), (lg, .inl (cI, 12, .inl lgf')), (sh, .inr (2, [.ref sa, .int cnt', .int call'])), (sa, .inl (cI, 12, .inl swf')), (vh, .inr (3, [.ref va])), (va, .inl (cI, 12, .inl fnf))] := hD
          refine lv_if_eq (tgt := 74) hx hb dL_runs_67 (by decide) (fun c_26 => ?_) (fun c_26 => ?_)
          · have h := h.1 c_26
            refine lv_iconst (v := 0) hx hb dL_runs_74 (by decide) ?_
            refine lv_iadd hx hb dL_runs_75 ?_
            refine lv_topi (fun y_27 ey_27 => ?_)
            have h := h y_27 ey_27
            refine lv_istore (lv' := [(8, .int y_27), (0, .ref xh), (1, .int p1), (2, .ref qb), (3, .ref qg), (4, .ref ql), (5, .int x5), (6, .int x6), (7, .int x7), (9, .int x9), (10, .int x10), (11, .int x11)]) hx hb dL_runs_76 hl (by decide) rfl (fun ls hl => ?_)
            refine lv_aload_n hx hb dL_runs_78 rfl (lv_at hl 1 rfl) ?_
            refine lv_iload hx hb dL_runs_79 (lv_at hl 8 rfl) ?_
            refine lv_iload hx hb dL_runs_81 (lv_at hl 11 rfl) ?_
            obtain ⟨p_28, h⟩ := h
            have hPc := hP.sub (ws' := [(xh, .inr (4, [.ref ch, .ref bh, .ref lg, .int lgd', .ref sh, .ref vh])), (ch, .inr (0, [.ref ca, .int ccc, .int cac, .int cfc, .int clc])), (ca, .inl (cI, 10, .inl cf)), (bh, .inr (0, [.ref ba, .int bcc, .int bac, .int bfc, .int blc])), (ba, .inl (cI, 10, .inl bf')), (lg, .inl (cI, 12, .inl lgf')), (sh, .inr (2, [.ref sa, .int cnt', .int call'])), (sa, .inl (cI, 12, .inl swf')), (vh, .inr (3, [.ref va])), (va, .inl (cI, 12, .inl fnf))]) [3, 4, 5, 6, 7, 8, 9, 10, 11, 12] rfl
            have hDc := hD.sub (ws' := [(xh, .inr (4, [.ref ch, .ref bh, .ref lg, .int lgd', .ref sh, .ref vh])), (ch, .inr (0, [.ref ca, .int ccc, .int cac, .int cfc, .int clc])), (ca, .inl (cI, 10, .inl cf)), (bh, .inr (0, [.ref ba, .int bcc, .int bac, .int bfc, .int blc])), (ba, .inl (cI, 10, .inl bf')), (lg, .inl (cI, 12, .inl lgf')), (sh, .inr (2, [.ref sa, .int cnt', .int call'])), (sa, .inl (cI, 12, .inl swf')), (vh, .inr (3, [.ref va])), (va, .inl (cI, 12, .inl fnf))]) [3, 4, 5, 6, 7, 8, 9, 10, 11, 12] (by decide) rfl
            refine ff_callI (va_runV (As := [.int x7, .int x11]) (rest := []) ⟨hx, hb, hml, hown, hts⟩ (c_X4_canBeN l D cI xh ch ca bh ba lg sh sa vh va H.size lgd' ccc cac cfc clc cf bcc bac bfc blc bf' lgf' cnt' call' swf' fnf x7 x11 p_28) (cwV 2 hts gL_runs_X4_canBe rfl rfl rfl (by decide +kernel) ⟨Nat.le_of_ble_eq_true rfl, Nat.le_of_ble_eq_true rfl⟩) (ff_preV (q := (RX4, TX4, 6)) (ci := 4) (q0 := 0) hPc hK hDc hN rfl rfl) rfl rfl hl.1 rfl (lv_room (Nat.le_of_ble_eq_true rfl)) dL_runs_83 ⟨Nat.le_of_ble_eq_true rfl, Nat.le_of_ble_eq_true rfl⟩) hP hD hS hA [3, 4, 5, 6, 7, 8, 9, 10, 11, 12] [0, 1, 2] (wr := [(qb, .inl (cI, 12, .inl fb')), (qg, .inl (cI, 3, .inl fg')), (ql, .inl (cI, 12, .inl fl'))]) rfl rfl (by decide) (by decide) (fun r u H locs hw hP hD hS => ?_)
            obtain ⟨e0_w, e1_w⟩ := hw
            replace e0_w := e0_w.symm
            subst e0_w
            replace e1_w := e1_w.symm
            subst e1_w
            have hP : va_P D vwCl [(qb, .inl (cI, 12, .inl fb')), (qg, .inl (cI, 3, .inl fg')), (ql, .inl (cI, 12, .inl fl')), (xh, .inr (4, [.ref ch, .ref bh, .ref lg, .int lgd', .ref sh, .ref vh])), (ch, .inr (0, [.ref ca, .int ccc, .int cac, .int cfc, .int clc])), (ca, .inl (cI, 10, .inl cf)), (bh, .inr (0, [.ref ba, .int bcc, .int bac, .int bfc, .int blc])), (ba, .inl (cI, 10, .inl bf')), (lg, .inl (cI, 12, .inl lgf')), (sh, .inr (2, [.ref sa, .int cnt', .int call'])), (sa, .inl (cI, 12, .inl swf')), (vh, .inr (3, [.ref va])), (va, .inl (cI, 12, .inl fnf))] H := hP
            have hD : va_D A [(qb, .inl (cI, 12, .inl fb')), (qg, .inl (cI, 3, .inl fg')), (ql, .inl (cI, 12, .inl fl')), (xh, .inr (4, [.ref ch, .ref bh, .ref lg, .int lgd', .ref sh, .ref vh])), (ch, .inr (0, [.ref ca, .int ccc, .int cac, .int cfc, .int clc])), (ca, .inl (cI, 10, .inl cf)), (bh, .inr (0, [.ref ba, .int bcc, .int bac, .int bfc, .int blc])), (ba, .inl (cI, 10, .inl bf')), (lg, .inl (cI, 12, .inl lgf')), (sh, .inr (2, [.ref sa, .int cnt', .int call'])), (sa, .inl (cI, 12, .inl swf')), (vh, .inr (3, [.ref va])), (va, .inl (cI, 12, .inl fnf))] := hD
            refine lv_if_eq (tgt := 94) hx hb dL_runs_86 (by decide) (fun c_29 => ?_) (fun c_29 => ?_)
            · have h := h.1 c_29
              refine lv_iload hx hb dL_runs_94 (lv_at hl 9 rfl) ?_
              refine lv_istore (lv' := [(9, .int x9), (8, .int y_27), (0, .ref xh), (1, .int p1), (2, .ref qb), (3, .ref qg), (4, .ref ql), (5, .int x5), (6, .int x6), (7, .int x7), (10, .int x10), (11, .int x11)]) hx hb dL_runs_96 hl (by decide) rfl (fun ls hl => ?_)
              obtain ⟨y_30, ey_30⟩ : ∃ y : Int32, y = x11 + 1 := ⟨_, rfl⟩
              have h := h y_30 ey_30
              refine lv_iinc (v := y_30) (lv' := [(11, .int y_30), (9, .int x9), (8, .int y_27), (0, .ref xh), (1, .int p1), (2, .ref qb), (3, .ref qg), (4, .ref ql), (5, .int x5), (6, .int x6), (7, .int x7), (10, .int x10)]) hx hb dL_runs_98 hl (k := 11) rfl (by rw [ey_30]; rfl) (by decide) rfl (fun ls hl => ?_)
              refine lv_goto (tgt := 50) hx hb dL_runs_101 (by decide) ?_
              exact ih.2.1 _ _ _ _ _ _ _ _ _ _ _ _ _ _ _ _ _ _ _ h.1 (Nat.lt_of_lt_of_le h.2 (Nat.le_of_lt_succ hmu)) (hP.sub [3, 4, 5, 6, 7, 8, 9, 10, 11, 12, 0, 1, 2] rfl) (hD.sub [3, 4, 5, 6, 7, 8, 9, 10, 11, 12, 0, 1, 2] (by decide) rfl) hS (lv_sub hl [3, 4, 5, 6, 7, 8, 9, 10, 2, 1, 11, 0] rfl)
            · have h := h.2 c_29
              refine lv_iload hx hb dL_runs_89 (lv_at hl 11 rfl) ?_
              refine lv_goto (tgt := 96) hx hb dL_runs_91 (by decide) ?_
              refine lv_istore (lv' := [(9, .int x11), (8, .int y_27), (0, .ref xh), (1, .int p1), (2, .ref qb), (3, .ref qg), (4, .ref ql), (5, .int x5), (6, .int x6), (7, .int x7), (10, .int x10), (11, .int x11)]) hx hb dL_runs_96 hl (by decide) rfl (fun ls hl => ?_)
              obtain ⟨y_31, ey_31⟩ : ∃ y : Int32, y = x11 + 1 := ⟨_, rfl⟩
              have h := h y_31 ey_31
              refine lv_iinc (v := y_31) (lv' := [(11, .int y_31), (9, .int x11), (8, .int y_27), (0, .ref xh), (1, .int p1), (2, .ref qb), (3, .ref qg), (4, .ref ql), (5, .int x5), (6, .int x6), (7, .int x7), (10, .int x10)]) hx hb dL_runs_98 hl (k := 11) rfl (by rw [ey_31]; rfl) (by decide) rfl (fun ls hl => ?_)
              refine lv_goto (tgt := 50) hx hb dL_runs_101 (by decide) ?_
              exact ih.2.1 _ _ _ _ _ _ _ _ _ _ _ _ _ _ _ _ _ _ _ h.1 (Nat.lt_of_lt_of_le h.2 (Nat.le_of_lt_succ hmu)) (hP.sub [3, 4, 5, 6, 7, 8, 9, 10, 11, 12, 0, 1, 2] rfl) (hD.sub [3, 4, 5, 6, 7, 8, 9, 10, 11, 12, 0, 1, 2] (by decide) rfl) hS (lv_sub hl [3, 4, 5, 6, 7, 8, 9, 10, 2, 1, 11, 0] rfl)
          · have h := h.2 c_26
            refine lv_iconst (v := 1) hx hb dL_runs_70 (by decide) ?_
            refine lv_goto (tgt := 75) hx hb dL_runs_71 (by decide) ?_
            refine lv_iadd hx hb dL_runs_75 ?_
            refine lv_topi (fun y_32 ey_32 => ?_)
            have h := h y_32 ey_32
            refine lv_istore (lv' := [(8, .int y_32), (0, .ref xh), (1, .int p1), (2, .ref qb), (3, .ref qg), (4, .ref ql), (5, .int x5), (6, .int x6), (7, .int x7), (9, .int x9), (10, .int x10), (11, .int x11)]) hx hb dL_runs_76 hl (by decide) rfl (fun ls hl => ?_)
            refine lv_aload_n hx hb dL_runs_78 rfl (lv_at hl 1 rfl) ?_
            refine lv_iload hx hb dL_runs_79 (lv_at hl 8 rfl) ?_
            refine lv_iload hx hb dL_runs_81 (lv_at hl 11 rfl) ?_
            obtain ⟨p_33, h⟩ := h
            have hPc := hP.sub (ws' := [(xh, .inr (4, [.ref ch, .ref bh, .ref lg, .int lgd', .ref sh, .ref vh])), (ch, .inr (0, [.ref ca, .int ccc, .int cac, .int cfc, .int clc])), (ca, .inl (cI, 10, .inl cf)), (bh, .inr (0, [.ref ba, .int bcc, .int bac, .int bfc, .int blc])), (ba, .inl (cI, 10, .inl bf')), (lg, .inl (cI, 12, .inl lgf')), (sh, .inr (2, [.ref sa, .int cnt', .int call'])), (sa, .inl (cI, 12, .inl swf')), (vh, .inr (3, [.ref va])), (va, .inl (cI, 12, .inl fnf))]) [3, 4, 5, 6, 7, 8, 9, 10, 11, 12] rfl
            have hDc := hD.sub (ws' := [(xh, .inr (4, [.ref ch, .ref bh, .ref lg, .int lgd', .ref sh, .ref vh])), (ch, .inr (0, [.ref ca, .int ccc, .int cac, .int cfc, .int clc])), (ca, .inl (cI, 10, .inl cf)), (bh, .inr (0, [.ref ba, .int bcc, .int bac, .int bfc, .int blc])), (ba, .inl (cI, 10, .inl bf')), (lg, .inl (cI, 12, .inl lgf')), (sh, .inr (2, [.ref sa, .int cnt', .int call'])), (sa, .inl (cI, 12, .inl swf')), (vh, .inr (3, [.ref va])), (va, .inl (cI, 12, .inl fnf))]) [3, 4, 5, 6, 7, 8, 9, 10, 11, 12] (by decide) rfl
            refine ff_callI (va_runV (As := [.int x7, .int x11]) (rest := []) ⟨hx, hb, hml, hown, hts⟩ (c_X4_canBeN l D cI xh ch ca bh ba lg sh sa vh va H.size lgd' ccc cac cfc clc cf bcc bac bfc blc bf' lgf' cnt' call' swf' fnf x7 x11 p_33) (cwV 2 hts gL_runs_X4_canBe rfl rfl rfl (by decide +kernel) ⟨Nat.le_of_ble_eq_true rfl, Nat.le_of_ble_eq_true rfl⟩) (ff_preV (q := (RX4, TX4, 6)) (ci := 4) (q0 := 0) hPc hK hDc hN rfl rfl) rfl rfl hl.1 rfl (lv_room (Nat.le_of_ble_eq_true rfl)) dL_runs_83 ⟨Nat.le_of_ble_eq_true rfl, Nat.le_of_ble_eq_true rfl⟩) hP hD hS hA [3, 4, 5, 6, 7, 8, 9, 10, 11, 12] [0, 1, 2] (wr := [(qb, .inl (cI, 12, .inl fb')), (qg, .inl (cI, 3, .inl fg')), (ql, .inl (cI, 12, .inl fl'))]) rfl rfl (by decide) (by decide) (fun r u H locs hw hP hD hS => ?_)
            obtain ⟨e0_w, e1_w⟩ := hw
            replace e0_w := e0_w.symm
            subst e0_w
            replace e1_w := e1_w.symm
            subst e1_w
            have hP : va_P D vwCl [(qb, .inl (cI, 12, .inl fb')), (qg, .inl (cI, 3, .inl fg')), (ql, .inl (cI, 12, .inl fl')), (xh, .inr (4, [.ref ch, .ref bh, .ref lg, .int lgd', .ref sh, .ref vh])), (ch, .inr (0, [.ref ca, .int ccc, .int cac, .int cfc, .int clc])), (ca, .inl (cI, 10, .inl cf)), (bh, .inr (0, [.ref ba, .int bcc, .int bac, .int bfc, .int blc])), (ba, .inl (cI, 10, .inl bf')), (lg, .inl (cI, 12, .inl lgf')), (sh, .inr (2, [.ref sa, .int cnt', .int call'])), (sa, .inl (cI, 12, .inl swf')), (vh, .inr (3, [.ref va])), (va, .inl (cI, 12, .inl fnf))] H := hP
            have hD : va_D A [(qb, .inl (cI, 12, .inl fb')), (qg, .inl (cI, 3, .inl fg')), (ql, .inl (cI, 12, .inl fl')), (xh, .inr (4, [.ref ch, .ref bh, .ref lg, .int lgd', .ref sh, .ref vh])), (ch, .inr (0, [.ref ca, .int ccc, .int cac, .int cfc, .int clc])), (ca, .inl (cI, 10, .inl cf)), (bh, .inr (0, [.ref ba, .int bcc, .int bac, .int bfc, .int blc])), (ba, .inl (cI, 10, .inl bf')), (lg, .inl (cI, 12, .inl lgf')), (sh, .inr (2, [.ref sa, .int cnt', .int call'])), (sa, .inl (cI, 12, .inl swf')), (vh, .inr (3, [.ref va])), (va, .inl (cI, 12, .inl fnf))] := hD
            refine lv_if_eq (tgt := 94) hx hb dL_runs_86 (by decide) (fun c_34 => ?_) (fun c_34 => ?_)
            · have h := h.1 c_34
              refine lv_iload hx hb dL_runs_94 (lv_at hl 9 rfl) ?_
              refine lv_istore (lv' := [(9, .int x9), (8, .int y_32), (0, .ref xh), (1, .int p1), (2, .ref qb), (3, .ref qg), (4, .ref ql), (5, .int x5), (6, .int x6), (7, .int x7), (10, .int x10), (11, .int x11)]) hx hb dL_runs_96 hl (by decide) rfl (fun ls hl => ?_)
              obtain ⟨y_35, ey_35⟩ : ∃ y : Int32, y = x11 + 1 := ⟨_, rfl⟩
              have h := h y_35 ey_35
              refine lv_iinc (v := y_35) (lv' := [(11, .int y_35), (9, .int x9), (8, .int y_32), (0, .ref xh), (1, .int p1), (2, .ref qb), (3, .ref qg), (4, .ref ql), (5, .int x5), (6, .int x6), (7, .int x7), (10, .int x10)]) hx hb dL_runs_98 hl (k := 11) rfl (by rw [ey_35]; rfl) (by decide) rfl (fun ls hl => ?_)
              refine lv_goto (tgt := 50) hx hb dL_runs_101 (by decide) ?_
              exact ih.2.1 _ _ _ _ _ _ _ _ _ _ _ _ _ _ _ _ _ _ _ h.1 (Nat.lt_of_lt_of_le h.2 (Nat.le_of_lt_succ hmu)) (hP.sub [3, 4, 5, 6, 7, 8, 9, 10, 11, 12, 0, 1, 2] rfl) (hD.sub [3, 4, 5, 6, 7, 8, 9, 10, 11, 12, 0, 1, 2] (by decide) rfl) hS (lv_sub hl [3, 4, 5, 6, 7, 8, 9, 10, 2, 1, 11, 0] rfl)
            · have h := h.2 c_34
              refine lv_iload hx hb dL_runs_89 (lv_at hl 11 rfl) ?_
              refine lv_goto (tgt := 96) hx hb dL_runs_91 (by decide) ?_
              refine lv_istore (lv' := [(9, .int x11), (8, .int y_32), (0, .ref xh), (1, .int p1), (2, .ref qb), (3, .ref qg), (4, .ref ql), (5, .int x5), (6, .int x6), (7, .int x7), (10, .int x10), (11, .int x11)]) hx hb dL_runs_96 hl (by decide) rfl (fun ls hl => ?_)
              obtain ⟨y_36, ey_36⟩ : ∃ y : Int32, y = x11 + 1 := ⟨_, rfl⟩
              have h := h y_36 ey_36
              refine lv_iinc (v := y_36) (lv' := [(11, .int y_36), (9, .int x11), (8, .int y_32), (0, .ref xh), (1, .int p1), (2, .ref qb), (3, .ref qg), (4, .ref ql), (5, .int x5), (6, .int x6), (7, .int x7), (10, .int x10)]) hx hb dL_runs_98 hl (k := 11) rfl (by rw [ey_36]; rfl) (by decide) rfl (fun ls hl => ?_)
              refine lv_goto (tgt := 50) hx hb dL_runs_101 (by decide) ?_
              exact ih.2.1 _ _ _ _ _ _ _ _ _ _ _ _ _ _ _ _ _ _ _ h.1 (Nat.lt_of_lt_of_le h.2 (Nat.le_of_lt_succ hmu)) (hP.sub [3, 4, 5, 6, 7, 8, 9, 10, 11, 12, 0, 1, 2] rfl) (hD.sub [3, 4, 5, 6, 7, 8, 9, 10, 11, 12, 0, 1, 2] (by decide) rfl) hS (lv_sub hl [3, 4, 5, 6, 7, 8, 9, 10, 2, 1, 11, 0] rfl)
      · intro x5 x6 x7 x8 x9 x10 x11 bf' lgf' lgd' cnt' call' swf' fb' fg' fl' H locs ls hI hmu hP hD hS hl
        have h := hv107 x5 x6 x7 x8 x9 x10 x11 bf' lgf' lgd' cnt' call' swf' fb' fg' fl' hI
        unfold vs_L_runs_107 at h
        refine lv_iload hx hb dL_runs_107 (lv_at hl 11 rfl) ?_
        refine lv_aload_n hx hb dL_runs_109 rfl (lv_at hl 3 rfl) ?_
        refine lv_iconst (v := 0) hx hb dL_runs_110 (by decide) ?_
        refine ff_ialdK hx hb hK hP 11 0 rfl rfl (vp_in_nI (n := 0) (N := 3) (by decide) (by decide)) (k := 0) rfl dL_runs_111 ?_
        refine lv_aload_n hx hb dL_runs_112 rfl (lv_at hl 3 rfl) ?_
        refine lv_iconst (v := 1) hx hb dL_runs_113 (by decide) ?_
        refine ff_ialdK hx hb hK hP 11 0 rfl rfl (vp_in_nI (n := 1) (N := 3) (by decide) (by decide)) (k := 1) rfl dL_runs_114 ?_
        refine lv_imul hx hb dL_runs_115 ?_
        refine lv_icmp_ge (tgt := 155) hx hb dL_runs_116 (by decide) (fun c_37 => ?_) (fun c_37 => ?_)
        · have h := h.1 c_37
          refine lv_iload_n hx hb dL_runs_155 rfl (lv_at hl 1 rfl) ?_
          refine lv_if_ne (tgt := 176) hx hb dL_runs_156 (by decide) (fun c_38 => ?_) (fun c_38 => ?_)
          · have h := h.2 c_38
            refine lv_iload_n hx hb dL_runs_176 rfl (lv_at hl 1 rfl) ?_
            refine lv_iconst (v := 2) hx hb dL_runs_177 (by decide) ?_
            refine lv_icmp_ne (tgt := 215) hx hb dL_runs_178 (by decide) (fun c_39 => ?_) (fun c_39 => ?_)
            · have h := h.2 c_39
              refine lv_iload hx hb dL_runs_215 (lv_at hl 5 rfl) ?_
              refine lv_istore (lv' := [(5, .int x5), (0, .ref xh), (1, .int p1), (2, .ref qb), (3, .ref qg), (4, .ref ql), (6, .int x6), (7, .int x7), (8, .int x8), (9, .int x9), (10, .int x10), (11, .int x11)]) hx hb dL_runs_217 hl (by decide) rfl (fun ls hl => ?_)
              refine lv_aload_n hx hb dL_runs_219 rfl (lv_at hl 4 rfl) ?_
              refine lv_iconst (v := 0) hx hb dL_runs_220 (by decide) ?_
              refine ff_ialdK hx hb hK hP 11 0 rfl rfl (vp_in_nI (n := 0) (N := 3) (by decide) (by decide)) (k := 0) rfl dL_runs_221 ?_
              refine lv_aload_n hx hb dL_runs_222 rfl (lv_at hl 4 rfl) ?_
              refine lv_iconst (v := 1) hx hb dL_runs_223 (by decide) ?_
              refine ff_ialdK hx hb hK hP 11 0 rfl rfl (vp_in_nI (n := 1) (N := 3) (by decide) (by decide)) (k := 1) rfl dL_runs_224 ?_
              refine lv_imul hx hb dL_runs_225 ?_
              refine lv_iconst (v := 1) hx hb dL_runs_226 (by decide) ?_
              refine lv_isub hx hb dL_runs_227 ?_
              refine lv_topi (fun y_40 ey_40 => ?_)
              have h := h y_40 ey_40
              refine lv_istore (lv' := [(11, .int y_40), (5, .int x5), (0, .ref xh), (1, .int p1), (2, .ref qb), (3, .ref qg), (4, .ref ql), (6, .int x6), (7, .int x7), (8, .int x8), (9, .int x9), (10, .int x10)]) hx hb dL_runs_228 hl (by decide) rfl (fun ls hl => ?_)
              exact ih.2.2.2 _ _ _ _ _ _ _ _ _ _ _ _ _ _ _ _ _ _ _ h.1 (Nat.lt_of_lt_of_le h.2 (Nat.le_of_lt_succ hmu)) (hP.sub [0, 1, 2, 3, 4, 5, 6, 7, 8, 9, 10, 11, 12] rfl) (hD.sub [0, 1, 2, 3, 4, 5, 6, 7, 8, 9, 10, 11, 12] (by decide) rfl) hS (lv_sub hl [2, 3, 4, 5, 6, 1, 7, 8, 9, 10, 11, 0] rfl)
            · have h := h.1 c_39
              refine lv_aload_n hx hb dL_runs_181 rfl (lv_at hl 0 rfl) ?_
              refine lv_iload hx hb dL_runs_182 (lv_at hl 7 rfl) ?_
              obtain ⟨p_41, h⟩ := h
              have hPc := hP.sub (ws' := [(xh, .inr (4, [.ref ch, .ref bh, .ref lg, .int lgd', .ref sh, .ref vh])), (ch, .inr (0, [.ref ca, .int ccc, .int cac, .int cfc, .int clc])), (ca, .inl (cI, 10, .inl cf)), (bh, .inr (0, [.ref ba, .int bcc, .int bac, .int bfc, .int blc])), (ba, .inl (cI, 10, .inl bf')), (lg, .inl (cI, 12, .inl lgf')), (sh, .inr (2, [.ref sa, .int cnt', .int call'])), (sa, .inl (cI, 12, .inl swf')), (vh, .inr (3, [.ref va])), (va, .inl (cI, 12, .inl fnf))]) [0, 1, 2, 3, 4, 5, 6, 7, 8, 9] rfl
              have hDc := hD.sub (ws' := [(xh, .inr (4, [.ref ch, .ref bh, .ref lg, .int lgd', .ref sh, .ref vh])), (ch, .inr (0, [.ref ca, .int ccc, .int cac, .int cfc, .int clc])), (ca, .inl (cI, 10, .inl cf)), (bh, .inr (0, [.ref ba, .int bcc, .int bac, .int bfc, .int blc])), (ba, .inl (cI, 10, .inl bf')), (lg, .inl (cI, 12, .inl lgf')), (sh, .inr (2, [.ref sa, .int cnt', .int call'])), (sa, .inl (cI, 12, .inl swf')), (vh, .inr (3, [.ref va])), (va, .inl (cI, 12, .inl fnf))]) [0, 1, 2, 3, 4, 5, 6, 7, 8, 9] (by decide) rfl
              refine ff_callI (va_runV (As := [.int x7]) (rest := []) ⟨hx, hb, hml, hown, hts⟩ (c_X4_isHiddenN l D cI xh ch ca bh ba lg sh sa vh va H.size lgd' ccc cac cfc clc cf bcc bac bfc blc bf' lgf' cnt' call' swf' fnf x7 p_41) (cwV 1 hts gL_runs_X4_isHidden rfl rfl rfl (by decide +kernel) ⟨Nat.le_of_ble_eq_true rfl, Nat.le_of_ble_eq_true rfl⟩) (ff_preV (q := (RX4, TX4, 6)) (ci := 4) (q0 := 0) hPc hK hDc hN rfl rfl) rfl rfl hl.1 rfl (lv_room (Nat.le_of_ble_eq_true rfl)) dL_runs_184 ⟨Nat.le_of_ble_eq_true rfl, Nat.le_of_ble_eq_true rfl⟩) hP hD hS hA [0, 1, 2, 3, 4, 5, 6, 7, 8, 9] [10, 11, 12] (wr := [(qb, .inl (cI, 12, .inl fb')), (qg, .inl (cI, 3, .inl fg')), (ql, .inl (cI, 12, .inl fl'))]) rfl rfl (by decide) (by decide) (fun r u H locs hw hP hD hS => ?_)
              replace hw := hw.symm
              subst hw
              have hP : va_P D vwCl [(qb, .inl (cI, 12, .inl fb')), (qg, .inl (cI, 3, .inl fg')), (ql, .inl (cI, 12, .inl fl')), (xh, .inr (4, [.ref ch, .ref bh, .ref lg, .int lgd', .ref sh, .ref vh])), (ch, .inr (0, [.ref ca, .int ccc, .int cac, .int cfc, .int clc])), (ca, .inl (cI, 10, .inl cf)), (bh, .inr (0, [.ref ba, .int bcc, .int bac, .int bfc, .int blc])), (ba, .inl (cI, 10, .inl bf')), (lg, .inl (cI, 12, .inl lgf')), (sh, .inr (2, [.ref sa, .int cnt', .int call'])), (sa, .inl (cI, 12, .inl swf')), (vh, .inr (3, [.ref va])), (va, .inl (cI, 12, .inl fnf))] H := hP
              have hD : va_D A [(qb, .inl (cI, 12, .inl fb')), (qg, .inl (cI, 3, .inl fg')), (ql, .inl (cI, 12, .inl fl')), (xh, .inr (4, [.ref ch, .ref bh, .ref lg, .int lgd', .ref sh, .ref vh])), (ch, .inr (0, [.ref ca, .int ccc, .int cac, .int cfc, .int clc])), (ca, .inl (cI, 10, .inl cf)), (bh, .inr (0, [.ref ba, .int bcc, .int bac, .int bfc, .int blc])), (ba, .inl (cI, 10, .inl bf')), (lg, .inl (cI, 12, .inl lgf')), (sh, .inr (2, [.ref sa, .int cnt', .int call'])), (sa, .inl (cI, 12, .inl swf')), (vh, .inr (3, [.ref va])), (va, .inl (cI, 12, .inl fnf))] := hD
              refine lv_if_eq (tgt := 215) hx hb dL_runs_187 (by decide) (fun c_42 => ?_) (fun c_42 => ?_)
              · have h := h.1 c_42
                refine lv_iload hx hb dL_runs_215 (lv_at hl 5 rfl) ?_
                refine lv_istore (lv' := [(5, .int x5), (0, .ref xh), (1, .int p1), (2, .ref qb), (3, .ref qg), (4, .ref ql), (6, .int x6), (7, .int x7), (8, .int x8), (9, .int x9), (10, .int x10), (11, .int x11)]) hx hb dL_runs_217 hl (by decide) rfl (fun ls hl => ?_)
                refine lv_aload_n hx hb dL_runs_219 rfl (lv_at hl 4 rfl) ?_
                refine lv_iconst (v := 0) hx hb dL_runs_220 (by decide) ?_
                refine ff_ialdK hx hb hK hP 1 0 rfl rfl (vp_in_nI (n := 0) (N := 3) (by decide) (by decide)) (k := 0) rfl dL_runs_221 ?_
                refine lv_aload_n hx hb dL_runs_222 rfl (lv_at hl 4 rfl) ?_
                refine lv_iconst (v := 1) hx hb dL_runs_223 (by decide) ?_
                refine ff_ialdK hx hb hK hP 1 0 rfl rfl (vp_in_nI (n := 1) (N := 3) (by decide) (by decide)) (k := 1) rfl dL_runs_224 ?_
                refine lv_imul hx hb dL_runs_225 ?_
                refine lv_iconst (v := 1) hx hb dL_runs_226 (by decide) ?_
                refine lv_isub hx hb dL_runs_227 ?_
                refine lv_topi (fun y_43 ey_43 => ?_)
                have h := h y_43 ey_43
                refine lv_istore (lv' := [(11, .int y_43), (5, .int x5), (0, .ref xh), (1, .int p1), (2, .ref qb), (3, .ref qg), (4, .ref ql), (6, .int x6), (7, .int x7), (8, .int x8), (9, .int x9), (10, .int x10)]) hx hb dL_runs_228 hl (by decide) rfl (fun ls hl => ?_)
                exact ih.2.2.2 _ _ _ _ _ _ _ _ _ _ _ _ _ _ _ _ _ _ _ h.1 (Nat.lt_of_lt_of_le h.2 (Nat.le_of_lt_succ hmu)) (hP.sub [3, 4, 5, 6, 7, 8, 9, 10, 11, 12, 0, 1, 2] rfl) (hD.sub [3, 4, 5, 6, 7, 8, 9, 10, 11, 12, 0, 1, 2] (by decide) rfl) hS (lv_sub hl [2, 3, 4, 5, 6, 1, 7, 8, 9, 10, 11, 0] rfl)
              · have h := h.2 c_42
                refine lv_iload hx hb dL_runs_190 (lv_at hl 10 rfl) ?_
                refine lv_if_ne (tgt := 215) hx hb dL_runs_192 (by decide) (fun c_44 => ?_) (fun c_44 => ?_)
                · have h := h.2 c_44
                  refine lv_iload hx hb dL_runs_215 (lv_at hl 5 rfl) ?_
                  refine lv_istore (lv' := [(5, .int x5), (0, .ref xh), (1, .int p1), (2, .ref qb), (3, .ref qg), (4, .ref ql), (6, .int x6), (7, .int x7), (8, .int x8), (9, .int x9), (10, .int x10), (11, .int x11)]) hx hb dL_runs_217 hl (by decide) rfl (fun ls hl => ?_)
                  refine lv_aload_n hx hb dL_runs_219 rfl (lv_at hl 4 rfl) ?_
                  refine lv_iconst (v := 0) hx hb dL_runs_220 (by decide) ?_
                  refine ff_ialdK hx hb hK hP 1 0 rfl rfl (vp_in_nI (n := 0) (N := 3) (by decide) (by decide)) (k := 0) rfl dL_runs_221 ?_
                  refine lv_aload_n hx hb dL_runs_222 rfl (lv_at hl 4 rfl) ?_
                  refine lv_iconst (v := 1) hx hb dL_runs_223 (by decide) ?_
                  refine ff_ialdK hx hb hK hP 1 0 rfl rfl (vp_in_nI (n := 1) (N := 3) (by decide) (by decide)) (k := 1) rfl dL_runs_224 ?_
                  refine lv_imul hx hb dL_runs_225 ?_
                  refine lv_iconst (v := 1) hx hb dL_runs_226 (by decide) ?_
                  refine lv_isub hx hb dL_runs_227 ?_
                  refine lv_topi (fun y_45 ey_45 => ?_)
                  have h := h y_45 ey_45
                  refine lv_istore (lv' := [(11, .int y_45), (5, .int x5), (0, .ref xh), (1, .int p1), (2, .ref qb), (3, .ref qg), (4, .ref ql), (6, .int x6), (7, .int x7), (8, .int x8), (9, .int x9), (10, .int x10)]) hx hb dL_runs_228 hl (by decide) rfl (fun ls hl => ?_)
                  exact ih.2.2.2 _ _ _ _ _ _ _ _ _ _ _ _ _ _ _ _ _ _ _ h.1 (Nat.lt_of_lt_of_le h.2 (Nat.le_of_lt_succ hmu)) (hP.sub [3, 4, 5, 6, 7, 8, 9, 10, 11, 12, 0, 1, 2] rfl) (hD.sub [3, 4, 5, 6, 7, 8, 9, 10, 11, 12, 0, 1, 2] (by decide) rfl) hS (lv_sub hl [2, 3, 4, 5, 6, 1, 7, 8, 9, 10, 11, 0] rfl)
                · have h := h.1 c_44
                  refine lv_aload_n hx hb dL_runs_195 rfl (lv_at hl 0 rfl) ?_
                  refine lv_iload hx hb dL_runs_196 (lv_at hl 7 rfl) ?_
                  refine lv_iconst (v := 1) hx hb dL_runs_198 (by decide) ?_
                  obtain ⟨p_46, h⟩ := h
                  have hPc := hP.sub (ws' := [(xh, .inr (4, [.ref ch, .ref bh, .ref lg, .int lgd', .ref sh, .ref vh])), (ch, .inr (0, [.ref ca, .int ccc, .int cac, .int cfc, .int clc])), (ca, .inl (cI, 10, .inl cf)), (bh, .inr (0, [.ref ba, .int bcc, .int bac, .int bfc, .int blc])), (ba, .inl (cI, 10, .inl bf')), (lg, .inl (cI, 12, .inl lgf')), (sh, .inr (2, [.ref sa, .int cnt', .int call'])), (sa, .inl (cI, 12, .inl swf')), (vh, .inr (3, [.ref va])), (va, .inl (cI, 12, .inl fnf))]) [3, 4, 5, 6, 7, 8, 9, 10, 11, 12] rfl
                  have hDc := hD.sub (ws' := [(xh, .inr (4, [.ref ch, .ref bh, .ref lg, .int lgd', .ref sh, .ref vh])), (ch, .inr (0, [.ref ca, .int ccc, .int cac, .int cfc, .int clc])), (ca, .inl (cI, 10, .inl cf)), (bh, .inr (0, [.ref ba, .int bcc, .int bac, .int bfc, .int blc])), (ba, .inl (cI, 10, .inl bf')), (lg, .inl (cI, 12, .inl lgf')), (sh, .inr (2, [.ref sa, .int cnt', .int call'])), (sa, .inl (cI, 12, .inl swf')), (vh, .inr (3, [.ref va])), (va, .inl (cI, 12, .inl fnf))]) [3, 4, 5, 6, 7, 8, 9, 10, 11, 12] (by decide) rfl
                  refine ff_callI (va_runV (As := [.int x7, .int 1]) (rest := []) ⟨hx, hb, hml, hown, hts⟩ (c_X4_canBeN l D cI xh ch ca bh ba lg sh sa vh va H.size lgd' ccc cac cfc clc cf bcc bac bfc blc bf' lgf' cnt' call' swf' fnf x7 1 p_46) (cwV 2 hts gL_runs_X4_canBe rfl rfl rfl (by decide +kernel) ⟨Nat.le_of_ble_eq_true rfl, Nat.le_of_ble_eq_true rfl⟩) (ff_preV (q := (RX4, TX4, 6)) (ci := 4) (q0 := 0) hPc hK hDc hN rfl rfl) rfl rfl hl.1 rfl (lv_room (Nat.le_of_ble_eq_true rfl)) dL_runs_199 ⟨Nat.le_of_ble_eq_true rfl, Nat.le_of_ble_eq_true rfl⟩) hP hD hS hA [3, 4, 5, 6, 7, 8, 9, 10, 11, 12] [0, 1, 2] (wr := [(qb, .inl (cI, 12, .inl fb')), (qg, .inl (cI, 3, .inl fg')), (ql, .inl (cI, 12, .inl fl'))]) rfl rfl (by decide) (by decide) (fun r u H locs hw hP hD hS => ?_)
                  obtain ⟨e0_w, e1_w⟩ := hw
                  replace e0_w := e0_w.symm
                  subst e0_w
                  replace e1_w := e1_w.symm
                  subst e1_w
                  have hP : va_P D vwCl [(qb, .inl (cI, 12, .inl fb')), (qg, .inl (cI, 3, .inl fg')), (ql, .inl (cI, 12, .inl fl')), (xh, .inr (4, [.ref ch, .ref bh, .ref lg, .int lgd', .ref sh, .ref vh])), (ch, .inr (0, [.ref ca, .int ccc, .int cac, .int cfc, .int clc])), (ca, .inl (cI, 10, .inl cf)), (bh, .inr (0, [.ref ba, .int bcc, .int bac, .int bfc, .int blc])), (ba, .inl (cI, 10, .inl bf')), (lg, .inl (cI, 12, .inl lgf')), (sh, .inr (2, [.ref sa, .int cnt', .int call'])), (sa, .inl (cI, 12, .inl swf')), (vh, .inr (3, [.ref va])), (va, .inl (cI, 12, .inl fnf))] H := hP
                  have hD : va_D A [(qb, .inl (cI, 12, .inl fb')), (qg, .inl (cI, 3, .inl fg')), (ql, .inl (cI, 12, .inl fl')), (xh, .inr (4, [.ref ch, .ref bh, .ref lg, .int lgd', .ref sh, .ref vh])), (ch, .inr (0, [.ref ca, .int ccc, .int cac, .int cfc, .int clc])), (ca, .inl (cI, 10, .inl cf)), (bh, .inr (0, [.ref ba, .int bcc, .int bac, .int bfc, .int blc])), (ba, .inl (cI, 10, .inl bf')), (lg, .inl (cI, 12, .inl lgf')), (sh, .inr (2, [.ref sa, .int cnt', .int call'])), (sa, .inl (cI, 12, .inl swf')), (vh, .inr (3, [.ref va])), (va, .inl (cI, 12, .inl fnf))] := hD
                  refine lv_if_eq (tgt := 215) hx hb dL_runs_202 (by decide) (fun c_47 => ?_) (fun c_47 => ?_)
                  · have h := h.1 c_47
                    refine lv_iload hx hb dL_runs_215 (lv_at hl 5 rfl) ?_
                    refine lv_istore (lv' := [(5, .int x5), (0, .ref xh), (1, .int p1), (2, .ref qb), (3, .ref qg), (4, .ref ql), (6, .int x6), (7, .int x7), (8, .int x8), (9, .int x9), (10, .int x10), (11, .int x11)]) hx hb dL_runs_217 hl (by decide) rfl (fun ls hl => ?_)
                    refine lv_aload_n hx hb dL_runs_219 rfl (lv_at hl 4 rfl) ?_
                    refine lv_iconst (v := 0) hx hb dL_runs_220 (by decide) ?_
                    refine ff_ialdK hx hb hK hP 1 0 rfl rfl (vp_in_nI (n := 0) (N := 3) (by decide) (by decide)) (k := 0) rfl dL_runs_221 ?_
                    refine lv_aload_n hx hb dL_runs_222 rfl (lv_at hl 4 rfl) ?_
                    refine lv_iconst (v := 1) hx hb dL_runs_223 (by decide) ?_
                    refine ff_ialdK hx hb hK hP 1 0 rfl rfl (vp_in_nI (n := 1) (N := 3) (by decide) (by decide)) (k := 1) rfl dL_runs_224 ?_
                    refine lv_imul hx hb dL_runs_225 ?_
                    refine lv_iconst (v := 1) hx hb dL_runs_226 (by decide) ?_
                    refine lv_isub hx hb dL_runs_227 ?_
                    refine lv_topi (fun y_48 ey_48 => ?_)
                    have h := h y_48 ey_48
                    refine lv_istore (lv' := [(11, .int y_48), (5, .int x5), (0, .ref xh), (1, .int p1), (2, .ref qb), (3, .ref qg), (4, .ref ql), (6, .int x6), (7, .int x7), (8, .int x8), (9, .int x9), (10, .int x10)]) hx hb dL_runs_228 hl (by decide) rfl (fun ls hl => ?_)
                    exact ih.2.2.2 _ _ _ _ _ _ _ _ _ _ _ _ _ _ _ _ _ _ _ h.1 (Nat.lt_of_lt_of_le h.2 (Nat.le_of_lt_succ hmu)) (hP.sub [3, 4, 5, 6, 7, 8, 9, 10, 11, 12, 0, 1, 2] rfl) (hD.sub [3, 4, 5, 6, 7, 8, 9, 10, 11, 12, 0, 1, 2] (by decide) rfl) hS (lv_sub hl [2, 3, 4, 5, 6, 1, 7, 8, 9, 10, 11, 0] rfl)
                  · have h := h.2 c_47
                    refine lv_bipush (v := 10) hx hb dL_runs_205 (by decide) ?_
                    refine lv_iload hx hb dL_runs_207 (lv_at hl 7 rfl) ?_
                    refine lv_imul hx hb dL_runs_209 ?_
                    refine lv_iconst (v := 1) hx hb dL_runs_210 (by decide) ?_
                    refine lv_iadd hx hb dL_runs_211 ?_
                    refine lv_goto (tgt := 217) hx hb dL_runs_212 (by decide) ?_
                    refine lv_topi (fun y_49 ey_49 => ?_)
                    have h := h y_49 ey_49
                    refine lv_istore (lv' := [(5, .int y_49), (0, .ref xh), (1, .int p1), (2, .ref qb), (3, .ref qg), (4, .ref ql), (6, .int x6), (7, .int x7), (8, .int x8), (9, .int x9), (10, .int x10), (11, .int x11)]) hx hb dL_runs_217 hl (by decide) rfl (fun ls hl => ?_)
                    refine lv_aload_n hx hb dL_runs_219 rfl (lv_at hl 4 rfl) ?_
                    refine lv_iconst (v := 0) hx hb dL_runs_220 (by decide) ?_
                    refine ff_ialdK hx hb hK hP 1 0 rfl rfl (vp_in_nI (n := 0) (N := 3) (by decide) (by decide)) (k := 0) rfl dL_runs_221 ?_
                    refine lv_aload_n hx hb dL_runs_222 rfl (lv_at hl 4 rfl) ?_
                    refine lv_iconst (v := 1) hx hb dL_runs_223 (by decide) ?_
                    refine ff_ialdK hx hb hK hP 1 0 rfl rfl (vp_in_nI (n := 1) (N := 3) (by decide) (by decide)) (k := 1) rfl dL_runs_224 ?_
                    refine lv_imul hx hb dL_runs_225 ?_
                    refine lv_iconst (v := 1) hx hb dL_runs_226 (by decide) ?_
                    refine lv_isub hx hb dL_runs_227 ?_
                    refine lv_topi (fun y_50 ey_50 => ?_)
                    have h := h y_50 ey_50
                    refine lv_istore (lv' := [(11, .int y_50), (5, .int y_49), (0, .ref xh), (1, .int p1), (2, .ref qb), (3, .ref qg), (4, .ref ql), (6, .int x6), (7, .int x7), (8, .int x8), (9, .int x9), (10, .int x10)]) hx hb dL_runs_228 hl (by decide) rfl (fun ls hl => ?_)
                    exact ih.2.2.2 _ _ _ _ _ _ _ _ _ _ _ _ _ _ _ _ _ _ _ h.1 (Nat.lt_of_lt_of_le h.2 (Nat.le_of_lt_succ hmu)) (hP.sub [3, 4, 5, 6, 7, 8, 9, 10, 11, 12, 0, 1, 2] rfl) (hD.sub [3, 4, 5, 6, 7, 8, 9, 10, 11, 12, 0, 1, 2] (by decide) rfl) hS (lv_sub hl [2, 3, 4, 5, 6, 1, 7, 8, 9, 10, 11, 0] rfl)
          · have h := h.1 c_38
            refine lv_iload hx hb dL_runs_159 (lv_at hl 8 rfl) ?_
            refine lv_iconst (v := 1) hx hb dL_runs_161 (by decide) ?_
            refine lv_icmp_ne (tgt := 176) hx hb dL_runs_162 (by decide) (fun c_51 => ?_) (fun c_51 => ?_)
            · have h := h.2 c_51
              refine lv_iload_n hx hb dL_runs_176 rfl (lv_at hl 1 rfl) ?_
              refine lv_iconst (v := 2) hx hb dL_runs_177 (by decide) ?_
              refine lv_icmp_ne (tgt := 215) hx hb dL_runs_178 (by decide) (fun c_52 => ?_) (fun c_52 => ?_)
              · have h := h.2 c_52
                refine lv_iload hx hb dL_runs_215 (lv_at hl 5 rfl) ?_
                refine lv_istore (lv' := [(5, .int x5), (0, .ref xh), (1, .int p1), (2, .ref qb), (3, .ref qg), (4, .ref ql), (6, .int x6), (7, .int x7), (8, .int x8), (9, .int x9), (10, .int x10), (11, .int x11)]) hx hb dL_runs_217 hl (by decide) rfl (fun ls hl => ?_)
                refine lv_aload_n hx hb dL_runs_219 rfl (lv_at hl 4 rfl) ?_
                refine lv_iconst (v := 0) hx hb dL_runs_220 (by decide) ?_
                refine ff_ialdK hx hb hK hP 11 0 rfl rfl (vp_in_nI (n := 0) (N := 3) (by decide) (by decide)) (k := 0) rfl dL_runs_221 ?_
                refine lv_aload_n hx hb dL_runs_222 rfl (lv_at hl 4 rfl) ?_
                refine lv_iconst (v := 1) hx hb dL_runs_223 (by decide) ?_
                refine ff_ialdK hx hb hK hP 11 0 rfl rfl (vp_in_nI (n := 1) (N := 3) (by decide) (by decide)) (k := 1) rfl dL_runs_224 ?_
                refine lv_imul hx hb dL_runs_225 ?_
                refine lv_iconst (v := 1) hx hb dL_runs_226 (by decide) ?_
                refine lv_isub hx hb dL_runs_227 ?_
                refine lv_topi (fun y_53 ey_53 => ?_)
                have h := h y_53 ey_53
                refine lv_istore (lv' := [(11, .int y_53), (5, .int x5), (0, .ref xh), (1, .int p1), (2, .ref qb), (3, .ref qg), (4, .ref ql), (6, .int x6), (7, .int x7), (8, .int x8), (9, .int x9), (10, .int x10)]) hx hb dL_runs_228 hl (by decide) rfl (fun ls hl => ?_)
                exact ih.2.2.2 _ _ _ _ _ _ _ _ _ _ _ _ _ _ _ _ _ _ _ h.1 (Nat.lt_of_lt_of_le h.2 (Nat.le_of_lt_succ hmu)) (hP.sub [0, 1, 2, 3, 4, 5, 6, 7, 8, 9, 10, 11, 12] rfl) (hD.sub [0, 1, 2, 3, 4, 5, 6, 7, 8, 9, 10, 11, 12] (by decide) rfl) hS (lv_sub hl [2, 3, 4, 5, 6, 1, 7, 8, 9, 10, 11, 0] rfl)
              · have h := h.1 c_52
                refine lv_aload_n hx hb dL_runs_181 rfl (lv_at hl 0 rfl) ?_
                refine lv_iload hx hb dL_runs_182 (lv_at hl 7 rfl) ?_
                obtain ⟨p_54, h⟩ := h
                have hPc := hP.sub (ws' := [(xh, .inr (4, [.ref ch, .ref bh, .ref lg, .int lgd', .ref sh, .ref vh])), (ch, .inr (0, [.ref ca, .int ccc, .int cac, .int cfc, .int clc])), (ca, .inl (cI, 10, .inl cf)), (bh, .inr (0, [.ref ba, .int bcc, .int bac, .int bfc, .int blc])), (ba, .inl (cI, 10, .inl bf')), (lg, .inl (cI, 12, .inl lgf')), (sh, .inr (2, [.ref sa, .int cnt', .int call'])), (sa, .inl (cI, 12, .inl swf')), (vh, .inr (3, [.ref va])), (va, .inl (cI, 12, .inl fnf))]) [0, 1, 2, 3, 4, 5, 6, 7, 8, 9] rfl
                have hDc := hD.sub (ws' := [(xh, .inr (4, [.ref ch, .ref bh, .ref lg, .int lgd', .ref sh, .ref vh])), (ch, .inr (0, [.ref ca, .int ccc, .int cac, .int cfc, .int clc])), (ca, .inl (cI, 10, .inl cf)), (bh, .inr (0, [.ref ba, .int bcc, .int bac, .int bfc, .int blc])), (ba, .inl (cI, 10, .inl bf')), (lg, .inl (cI, 12, .inl lgf')), (sh, .inr (2, [.ref sa, .int cnt', .int call'])), (sa, .inl (cI, 12, .inl swf')), (vh, .inr (3, [.ref va])), (va, .inl (cI, 12, .inl fnf))]) [0, 1, 2, 3, 4, 5, 6, 7, 8, 9] (by decide) rfl
                refine ff_callI (va_runV (As := [.int x7]) (rest := []) ⟨hx, hb, hml, hown, hts⟩ (c_X4_isHiddenN l D cI xh ch ca bh ba lg sh sa vh va H.size lgd' ccc cac cfc clc cf bcc bac bfc blc bf' lgf' cnt' call' swf' fnf x7 p_54) (cwV 1 hts gL_runs_X4_isHidden rfl rfl rfl (by decide +kernel) ⟨Nat.le_of_ble_eq_true rfl, Nat.le_of_ble_eq_true rfl⟩) (ff_preV (q := (RX4, TX4, 6)) (ci := 4) (q0 := 0) hPc hK hDc hN rfl rfl) rfl rfl hl.1 rfl (lv_room (Nat.le_of_ble_eq_true rfl)) dL_runs_184 ⟨Nat.le_of_ble_eq_true rfl, Nat.le_of_ble_eq_true rfl⟩) hP hD hS hA [0, 1, 2, 3, 4, 5, 6, 7, 8, 9] [10, 11, 12] (wr := [(qb, .inl (cI, 12, .inl fb')), (qg, .inl (cI, 3, .inl fg')), (ql, .inl (cI, 12, .inl fl'))]) rfl rfl (by decide) (by decide) (fun r u H locs hw hP hD hS => ?_)
                replace hw := hw.symm
                subst hw
                have hP : va_P D vwCl [(qb, .inl (cI, 12, .inl fb')), (qg, .inl (cI, 3, .inl fg')), (ql, .inl (cI, 12, .inl fl')), (xh, .inr (4, [.ref ch, .ref bh, .ref lg, .int lgd', .ref sh, .ref vh])), (ch, .inr (0, [.ref ca, .int ccc, .int cac, .int cfc, .int clc])), (ca, .inl (cI, 10, .inl cf)), (bh, .inr (0, [.ref ba, .int bcc, .int bac, .int bfc, .int blc])), (ba, .inl (cI, 10, .inl bf')), (lg, .inl (cI, 12, .inl lgf')), (sh, .inr (2, [.ref sa, .int cnt', .int call'])), (sa, .inl (cI, 12, .inl swf')), (vh, .inr (3, [.ref va])), (va, .inl (cI, 12, .inl fnf))] H := hP
                have hD : va_D A [(qb, .inl (cI, 12, .inl fb')), (qg, .inl (cI, 3, .inl fg')), (ql, .inl (cI, 12, .inl fl')), (xh, .inr (4, [.ref ch, .ref bh, .ref lg, .int lgd', .ref sh, .ref vh])), (ch, .inr (0, [.ref ca, .int ccc, .int cac, .int cfc, .int clc])), (ca, .inl (cI, 10, .inl cf)), (bh, .inr (0, [.ref ba, .int bcc, .int bac, .int bfc, .int blc])), (ba, .inl (cI, 10, .inl bf')), (lg, .inl (cI, 12, .inl lgf')), (sh, .inr (2, [.ref sa, .int cnt', .int call'])), (sa, .inl (cI, 12, .inl swf')), (vh, .inr (3, [.ref va])), (va, .inl (cI, 12, .inl fnf))] := hD
                refine lv_if_eq (tgt := 215) hx hb dL_runs_187 (by decide) (fun c_55 => ?_) (fun c_55 => ?_)
                · have h := h.1 c_55
                  refine lv_iload hx hb dL_runs_215 (lv_at hl 5 rfl) ?_
                  refine lv_istore (lv' := [(5, .int x5), (0, .ref xh), (1, .int p1), (2, .ref qb), (3, .ref qg), (4, .ref ql), (6, .int x6), (7, .int x7), (8, .int x8), (9, .int x9), (10, .int x10), (11, .int x11)]) hx hb dL_runs_217 hl (by decide) rfl (fun ls hl => ?_)
                  refine lv_aload_n hx hb dL_runs_219 rfl (lv_at hl 4 rfl) ?_
                  refine lv_iconst (v := 0) hx hb dL_runs_220 (by decide) ?_
                  refine ff_ialdK hx hb hK hP 1 0 rfl rfl (vp_in_nI (n := 0) (N := 3) (by decide) (by decide)) (k := 0) rfl dL_runs_221 ?_
                  refine lv_aload_n hx hb dL_runs_222 rfl (lv_at hl 4 rfl) ?_
                  refine lv_iconst (v := 1) hx hb dL_runs_223 (by decide) ?_
                  refine ff_ialdK hx hb hK hP 1 0 rfl rfl (vp_in_nI (n := 1) (N := 3) (by decide) (by decide)) (k := 1) rfl dL_runs_224 ?_
                  refine lv_imul hx hb dL_runs_225 ?_
                  refine lv_iconst (v := 1) hx hb dL_runs_226 (by decide) ?_
                  refine lv_isub hx hb dL_runs_227 ?_
                  refine lv_topi (fun y_56 ey_56 => ?_)
                  have h := h y_56 ey_56
                  refine lv_istore (lv' := [(11, .int y_56), (5, .int x5), (0, .ref xh), (1, .int p1), (2, .ref qb), (3, .ref qg), (4, .ref ql), (6, .int x6), (7, .int x7), (8, .int x8), (9, .int x9), (10, .int x10)]) hx hb dL_runs_228 hl (by decide) rfl (fun ls hl => ?_)
                  exact ih.2.2.2 _ _ _ _ _ _ _ _ _ _ _ _ _ _ _ _ _ _ _ h.1 (Nat.lt_of_lt_of_le h.2 (Nat.le_of_lt_succ hmu)) (hP.sub [3, 4, 5, 6, 7, 8, 9, 10, 11, 12, 0, 1, 2] rfl) (hD.sub [3, 4, 5, 6, 7, 8, 9, 10, 11, 12, 0, 1, 2] (by decide) rfl) hS (lv_sub hl [2, 3, 4, 5, 6, 1, 7, 8, 9, 10, 11, 0] rfl)
                · have h := h.2 c_55
                  refine lv_iload hx hb dL_runs_190 (lv_at hl 10 rfl) ?_
                  refine lv_if_ne (tgt := 215) hx hb dL_runs_192 (by decide) (fun c_57 => ?_) (fun c_57 => ?_)
                  · have h := h.2 c_57
                    refine lv_iload hx hb dL_runs_215 (lv_at hl 5 rfl) ?_
                    refine lv_istore (lv' := [(5, .int x5), (0, .ref xh), (1, .int p1), (2, .ref qb), (3, .ref qg), (4, .ref ql), (6, .int x6), (7, .int x7), (8, .int x8), (9, .int x9), (10, .int x10), (11, .int x11)]) hx hb dL_runs_217 hl (by decide) rfl (fun ls hl => ?_)
                    refine lv_aload_n hx hb dL_runs_219 rfl (lv_at hl 4 rfl) ?_
                    refine lv_iconst (v := 0) hx hb dL_runs_220 (by decide) ?_
                    refine ff_ialdK hx hb hK hP 1 0 rfl rfl (vp_in_nI (n := 0) (N := 3) (by decide) (by decide)) (k := 0) rfl dL_runs_221 ?_
                    refine lv_aload_n hx hb dL_runs_222 rfl (lv_at hl 4 rfl) ?_
                    refine lv_iconst (v := 1) hx hb dL_runs_223 (by decide) ?_
                    refine ff_ialdK hx hb hK hP 1 0 rfl rfl (vp_in_nI (n := 1) (N := 3) (by decide) (by decide)) (k := 1) rfl dL_runs_224 ?_
                    refine lv_imul hx hb dL_runs_225 ?_
                    refine lv_iconst (v := 1) hx hb dL_runs_226 (by decide) ?_
                    refine lv_isub hx hb dL_runs_227 ?_
                    refine lv_topi (fun y_58 ey_58 => ?_)
                    have h := h y_58 ey_58
                    refine lv_istore (lv' := [(11, .int y_58), (5, .int x5), (0, .ref xh), (1, .int p1), (2, .ref qb), (3, .ref qg), (4, .ref ql), (6, .int x6), (7, .int x7), (8, .int x8), (9, .int x9), (10, .int x10)]) hx hb dL_runs_228 hl (by decide) rfl (fun ls hl => ?_)
                    exact ih.2.2.2 _ _ _ _ _ _ _ _ _ _ _ _ _ _ _ _ _ _ _ h.1 (Nat.lt_of_lt_of_le h.2 (Nat.le_of_lt_succ hmu)) (hP.sub [3, 4, 5, 6, 7, 8, 9, 10, 11, 12, 0, 1, 2] rfl) (hD.sub [3, 4, 5, 6, 7, 8, 9, 10, 11, 12, 0, 1, 2] (by decide) rfl) hS (lv_sub hl [2, 3, 4, 5, 6, 1, 7, 8, 9, 10, 11, 0] rfl)
                  · have h := h.1 c_57
                    refine lv_aload_n hx hb dL_runs_195 rfl (lv_at hl 0 rfl) ?_
                    refine lv_iload hx hb dL_runs_196 (lv_at hl 7 rfl) ?_
                    refine lv_iconst (v := 1) hx hb dL_runs_198 (by decide) ?_
                    obtain ⟨p_59, h⟩ := h
                    have hPc := hP.sub (ws' := [(xh, .inr (4, [.ref ch, .ref bh, .ref lg, .int lgd', .ref sh, .ref vh])), (ch, .inr (0, [.ref ca, .int ccc, .int cac, .int cfc, .int clc])), (ca, .inl (cI, 10, .inl cf)), (bh, .inr (0, [.ref ba, .int bcc, .int bac, .int bfc, .int blc])), (ba, .inl (cI, 10, .inl bf')), (lg, .inl (cI, 12, .inl lgf')), (sh, .inr (2, [.ref sa, .int cnt', .int call'])), (sa, .inl (cI, 12, .inl swf')), (vh, .inr (3, [.ref va])), (va, .inl (cI, 12, .inl fnf))]) [3, 4, 5, 6, 7, 8, 9, 10, 11, 12] rfl
                    have hDc := hD.sub (ws' := [(xh, .inr (4, [.ref ch, .ref bh, .ref lg, .int lgd', .ref sh, .ref vh])), (ch, .inr (0, [.ref ca, .int ccc, .int cac, .int cfc, .int clc])), (ca, .inl (cI, 10, .inl cf)), (bh, .inr (0, [.ref ba, .int bcc, .int bac, .int bfc, .int blc])), (ba, .inl (cI, 10, .inl bf')), (lg, .inl (cI, 12, .inl lgf')), (sh, .inr (2, [.ref sa, .int cnt', .int call'])), (sa, .inl (cI, 12, .inl swf')), (vh, .inr (3, [.ref va])), (va, .inl (cI, 12, .inl fnf))]) [3, 4, 5, 6, 7, 8, 9, 10, 11, 12] (by decide) rfl
                    refine ff_callI (va_runV (As := [.int x7, .int 1]) (rest := []) ⟨hx, hb, hml, hown, hts⟩ (c_X4_canBeN l D cI xh ch ca bh ba lg sh sa vh va H.size lgd' ccc cac cfc clc cf bcc bac bfc blc bf' lgf' cnt' call' swf' fnf x7 1 p_59) (cwV 2 hts gL_runs_X4_canBe rfl rfl rfl (by decide +kernel) ⟨Nat.le_of_ble_eq_true rfl, Nat.le_of_ble_eq_true rfl⟩) (ff_preV (q := (RX4, TX4, 6)) (ci := 4) (q0 := 0) hPc hK hDc hN rfl rfl) rfl rfl hl.1 rfl (lv_room (Nat.le_of_ble_eq_true rfl)) dL_runs_199 ⟨Nat.le_of_ble_eq_true rfl, Nat.le_of_ble_eq_true rfl⟩) hP hD hS hA [3, 4, 5, 6, 7, 8, 9, 10, 11, 12] [0, 1, 2] (wr := [(qb, .inl (cI, 12, .inl fb')), (qg, .inl (cI, 3, .inl fg')), (ql, .inl (cI, 12, .inl fl'))]) rfl rfl (by decide) (by decide) (fun r u H locs hw hP hD hS => ?_)
                    obtain ⟨e0_w, e1_w⟩ := hw
                    replace e0_w := e0_w.symm
                    subst e0_w
                    replace e1_w := e1_w.symm
                    subst e1_w
                    have hP : va_P D vwCl [(qb, .inl (cI, 12, .inl fb')), (qg, .inl (cI, 3, .inl fg')), (ql, .inl (cI, 12, .inl fl')), (xh, .inr (4, [.ref ch, .ref bh, .ref lg, .int lgd', .ref sh, .ref vh])), (ch, .inr (0, [.ref ca, .int ccc, .int cac, .int cfc, .int clc])), (ca, .inl (cI, 10, .inl cf)), (bh, .inr (0, [.ref ba, .int bcc, .int bac, .int bfc, .int blc])), (ba, .inl (cI, 10, .inl bf')), (lg, .inl (cI, 12, .inl lgf')), (sh, .inr (2, [.ref sa, .int cnt', .int call'])), (sa, .inl (cI, 12, .inl swf')), (vh, .inr (3, [.ref va])), (va, .inl (cI, 12, .inl fnf))] H := hP
                    have hD : va_D A [(qb, .inl (cI, 12, .inl fb')), (qg, .inl (cI, 3, .inl fg')), (ql, .inl (cI, 12, .inl fl')), (xh, .inr (4, [.ref ch, .ref bh, .ref lg, .int lgd', .ref sh, .ref vh])), (ch, .inr (0, [.ref ca, .int ccc, .int cac, .int cfc, .int clc])), (ca, .inl (cI, 10, .inl cf)), (bh, .inr (0, [.ref ba, .int bcc, .int bac, .int bfc, .int blc])), (ba, .inl (cI, 10, .inl bf')), (lg, .inl (cI, 12, .inl lgf')), (sh, .inr (2, [.ref sa, .int cnt', .int call'])), (sa, .inl (cI, 12, .inl swf')), (vh, .inr (3, [.ref va])), (va, .inl (cI, 12, .inl fnf))] := hD
                    refine lv_if_eq (tgt := 215) hx hb dL_runs_202 (by decide) (fun c_60 => ?_) (fun c_60 => ?_)
                    · have h := h.1 c_60
                      refine lv_iload hx hb dL_runs_215 (lv_at hl 5 rfl) ?_
                      refine lv_istore (lv' := [(5, .int x5), (0, .ref xh), (1, .int p1), (2, .ref qb), (3, .ref qg), (4, .ref ql), (6, .int x6), (7, .int x7), (8, .int x8), (9, .int x9), (10, .int x10), (11, .int x11)]) hx hb dL_runs_217 hl (by decide) rfl (fun ls hl => ?_)
                      refine lv_aload_n hx hb dL_runs_219 rfl (lv_at hl 4 rfl) ?_
                      refine lv_iconst (v := 0) hx hb dL_runs_220 (by decide) ?_
                      refine ff_ialdK hx hb hK hP 1 0 rfl rfl (vp_in_nI (n := 0) (N := 3) (by decide) (by decide)) (k := 0) rfl dL_runs_221 ?_
                      refine lv_aload_n hx hb dL_runs_222 rfl (lv_at hl 4 rfl) ?_
                      refine lv_iconst (v := 1) hx hb dL_runs_223 (by decide) ?_
                      refine ff_ialdK hx hb hK hP 1 0 rfl rfl (vp_in_nI (n := 1) (N := 3) (by decide) (by decide)) (k := 1) rfl dL_runs_224 ?_
                      refine lv_imul hx hb dL_runs_225 ?_
                      refine lv_iconst (v := 1) hx hb dL_runs_226 (by decide) ?_
                      refine lv_isub hx hb dL_runs_227 ?_
                      refine lv_topi (fun y_61 ey_61 => ?_)
                      have h := h y_61 ey_61
                      refine lv_istore (lv' := [(11, .int y_61), (5, .int x5), (0, .ref xh), (1, .int p1), (2, .ref qb), (3, .ref qg), (4, .ref ql), (6, .int x6), (7, .int x7), (8, .int x8), (9, .int x9), (10, .int x10)]) hx hb dL_runs_228 hl (by decide) rfl (fun ls hl => ?_)
                      exact ih.2.2.2 _ _ _ _ _ _ _ _ _ _ _ _ _ _ _ _ _ _ _ h.1 (Nat.lt_of_lt_of_le h.2 (Nat.le_of_lt_succ hmu)) (hP.sub [3, 4, 5, 6, 7, 8, 9, 10, 11, 12, 0, 1, 2] rfl) (hD.sub [3, 4, 5, 6, 7, 8, 9, 10, 11, 12, 0, 1, 2] (by decide) rfl) hS (lv_sub hl [2, 3, 4, 5, 6, 1, 7, 8, 9, 10, 11, 0] rfl)
                    · have h := h.2 c_60
                      refine lv_bipush (v := 10) hx hb dL_runs_205 (by decide) ?_
                      refine lv_iload hx hb dL_runs_207 (lv_at hl 7 rfl) ?_
                      refine lv_imul hx hb dL_runs_209 ?_
                      refine lv_iconst (v := 1) hx hb dL_runs_210 (by decide) ?_
                      refine lv_iadd hx hb dL_runs_211 ?_
                      refine lv_goto (tgt := 217) hx hb dL_runs_212 (by decide) ?_
                      refine lv_topi (fun y_62 ey_62 => ?_)
                      have h := h y_62 ey_62
                      refine lv_istore (lv' := [(5, .int y_62), (0, .ref xh), (1, .int p1), (2, .ref qb), (3, .ref qg), (4, .ref ql), (6, .int x6), (7, .int x7), (8, .int x8), (9, .int x9), (10, .int x10), (11, .int x11)]) hx hb dL_runs_217 hl (by decide) rfl (fun ls hl => ?_)
                      refine lv_aload_n hx hb dL_runs_219 rfl (lv_at hl 4 rfl) ?_
                      refine lv_iconst (v := 0) hx hb dL_runs_220 (by decide) ?_
                      refine ff_ialdK hx hb hK hP 1 0 rfl rfl (vp_in_nI (n := 0) (N := 3) (by decide) (by decide)) (k := 0) rfl dL_runs_221 ?_
                      refine lv_aload_n hx hb dL_runs_222 rfl (lv_at hl 4 rfl) ?_
                      refine lv_iconst (v := 1) hx hb dL_runs_223 (by decide) ?_
                      refine ff_ialdK hx hb hK hP 1 0 rfl rfl (vp_in_nI (n := 1) (N := 3) (by decide) (by decide)) (k := 1) rfl dL_runs_224 ?_
                      refine lv_imul hx hb dL_runs_225 ?_
                      refine lv_iconst (v := 1) hx hb dL_runs_226 (by decide) ?_
                      refine lv_isub hx hb dL_runs_227 ?_
                      refine lv_topi (fun y_63 ey_63 => ?_)
                      have h := h y_63 ey_63
                      refine lv_istore (lv' := [(11, .int y_63), (5, .int y_62), (0, .ref xh), (1, .int p1), (2, .ref qb), (3, .ref qg), (4, .ref ql), (6, .int x6), (7, .int x7), (8, .int x8), (9, .int x9), (10, .int x10)]) hx hb dL_runs_228 hl (by decide) rfl (fun ls hl => ?_)
                      exact ih.2.2.2 _ _ _ _ _ _ _ _ _ _ _ _ _ _ _ _ _ _ _ h.1 (Nat.lt_of_lt_of_le h.2 (Nat.le_of_lt_succ hmu)) (hP.sub [3, 4, 5, 6, 7, 8, 9, 10, 11, 12, 0, 1, 2] rfl) (hD.sub [3, 4, 5, 6, 7, 8, 9, 10, 11, 12, 0, 1, 2] (by decide) rfl) hS (lv_sub hl [2, 3, 4, 5, 6, 1, 7, 8, 9, 10, 11, 0] rfl)
            · have h := h.1 c_51
              refine lv_bipush (v := 10) hx hb dL_runs_165 (by decide) ?_
              refine lv_iload hx hb dL_runs_167 (lv_at hl 7 rfl) ?_
              refine lv_imul hx hb dL_runs_169 ?_
              refine lv_iload hx hb dL_runs_170 (lv_at hl 9 rfl) ?_
              refine lv_iadd hx hb dL_runs_172 ?_
              refine lv_goto (tgt := 217) hx hb dL_runs_173 (by decide) ?_
              refine lv_topi (fun y_64 ey_64 => ?_)
              have h := h y_64 ey_64
              refine lv_istore (lv' := [(5, .int y_64), (0, .ref xh), (1, .int p1), (2, .ref qb), (3, .ref qg), (4, .ref ql), (6, .int x6), (7, .int x7), (8, .int x8), (9, .int x9), (10, .int x10), (11, .int x11)]) hx hb dL_runs_217 hl (by decide) rfl (fun ls hl => ?_)
              refine lv_aload_n hx hb dL_runs_219 rfl (lv_at hl 4 rfl) ?_
              refine lv_iconst (v := 0) hx hb dL_runs_220 (by decide) ?_
              refine ff_ialdK hx hb hK hP 11 0 rfl rfl (vp_in_nI (n := 0) (N := 3) (by decide) (by decide)) (k := 0) rfl dL_runs_221 ?_
              refine lv_aload_n hx hb dL_runs_222 rfl (lv_at hl 4 rfl) ?_
              refine lv_iconst (v := 1) hx hb dL_runs_223 (by decide) ?_
              refine ff_ialdK hx hb hK hP 11 0 rfl rfl (vp_in_nI (n := 1) (N := 3) (by decide) (by decide)) (k := 1) rfl dL_runs_224 ?_
              refine lv_imul hx hb dL_runs_225 ?_
              refine lv_iconst (v := 1) hx hb dL_runs_226 (by decide) ?_
              refine lv_isub hx hb dL_runs_227 ?_
              refine lv_topi (fun y_65 ey_65 => ?_)
              have h := h y_65 ey_65
              refine lv_istore (lv' := [(11, .int y_65), (5, .int y_64), (0, .ref xh), (1, .int p1), (2, .ref qb), (3, .ref qg), (4, .ref ql), (6, .int x6), (7, .int x7), (8, .int x8), (9, .int x9), (10, .int x10)]) hx hb dL_runs_228 hl (by decide) rfl (fun ls hl => ?_)
              exact ih.2.2.2 _ _ _ _ _ _ _ _ _ _ _ _ _ _ _ _ _ _ _ h.1 (Nat.lt_of_lt_of_le h.2 (Nat.le_of_lt_succ hmu)) (hP.sub [0, 1, 2, 3, 4, 5, 6, 7, 8, 9, 10, 11, 12] rfl) (hD.sub [0, 1, 2, 3, 4, 5, 6, 7, 8, 9, 10, 11, 12] (by decide) rfl) hS (lv_sub hl [2, 3, 4, 5, 6, 1, 7, 8, 9, 10, 11, 0] rfl)
        · have h := h.2 c_37
          refine lv_iload hx hb dL_runs_119 (lv_at hl 10 rfl) ?_
          refine lv_if_ne (tgt := 142) hx hb dL_runs_121 (by decide) (fun c_66 => ?_) (fun c_66 => ?_)
          · have h := h.2 c_66
            refine lv_iconst (v := 1) hx hb dL_runs_142 (by decide) ?_
            refine lv_goto (tgt := 147) hx hb dL_runs_143 (by decide) ?_
            refine lv_istore (lv' := [(10, .int 1), (0, .ref xh), (1, .int p1), (2, .ref qb), (3, .ref qg), (4, .ref ql), (5, .int x5), (6, .int x6), (7, .int x7), (8, .int x8), (9, .int x9), (11, .int x11)]) hx hb dL_runs_147 hl (by decide) rfl (fun ls hl => ?_)
            obtain ⟨y_67, ey_67⟩ : ∃ y : Int32, y = x11 + 1 := ⟨_, rfl⟩
            have h := h y_67 ey_67
            refine lv_iinc (v := y_67) (lv' := [(11, .int y_67), (10, .int 1), (0, .ref xh), (1, .int p1), (2, .ref qb), (3, .ref qg), (4, .ref ql), (5, .int x5), (6, .int x6), (7, .int x7), (8, .int x8), (9, .int x9)]) hx hb dL_runs_149 hl (k := 11) rfl (by rw [ey_67]; rfl) (by decide) rfl (fun ls hl => ?_)
            refine lv_goto (tgt := 107) hx hb dL_runs_152 (by decide) ?_
            exact ih.2.2.1 _ _ _ _ _ _ _ _ _ _ _ _ _ _ _ _ _ _ _ h.1 (Nat.lt_of_lt_of_le h.2 (Nat.le_of_lt_succ hmu)) (hP.sub [0, 1, 2, 3, 4, 5, 6, 7, 8, 9, 10, 11, 12] rfl) (hD.sub [0, 1, 2, 3, 4, 5, 6, 7, 8, 9, 10, 11, 12] (by decide) rfl) hS (lv_sub hl [2, 3, 4, 5, 6, 7, 8, 9, 10, 11, 1, 0] rfl)
          · have h := h.1 c_66
            refine lv_aload_n hx hb dL_runs_124 rfl (lv_at hl 3 rfl) ?_
            refine lv_iload hx hb dL_runs_125 (lv_at hl 11 rfl) ?_
            refine lv_iload hx hb dL_runs_127 (lv_at hl 7 rfl) ?_
            obtain ⟨p_68, h⟩ := h
            have hPc := hP.sub (ws' := [(qg, .inl (cI, 3, .inl fg'))]) [11] rfl
            have hDc := hD.sub (ws' := [(qg, .inl (cI, 3, .inl fg'))]) [11] (by decide) rfl
            refine ff_callI (va_runS (As := [.ref qg, .int x11, .int x7]) (rest := []) ⟨hx, hb, hml, hown, hts⟩ (c_L_areNext l D cI qg H.size fg' x11 x7 p_68) (va_cwS 3 hts gL_runs_L_areNext rfl rfl rfl (by decide +kernel) ⟨Nat.le_of_ble_eq_true rfl, Nat.le_of_ble_eq_true rfl⟩) (ff_preS hPc hK hDc hN) rfl rfl hl.1 rfl (lv_room (Nat.le_of_ble_eq_true rfl)) dL_runs_129 ⟨Nat.le_of_ble_eq_true rfl, Nat.le_of_ble_eq_true rfl⟩) hP hD hS hA [11] [0, 1, 2, 3, 4, 5, 6, 7, 8, 9, 10, 12] (wr := [(xh, .inr (4, [.ref ch, .ref bh, .ref lg, .int lgd', .ref sh, .ref vh])), (ch, .inr (0, [.ref ca, .int ccc, .int cac, .int cfc, .int clc])), (ca, .inl (cI, 10, .inl cf)), (bh, .inr (0, [.ref ba, .int bcc, .int bac, .int bfc, .int blc])), (ba, .inl (cI, 10, .inl bf')), (lg, .inl (cI, 12, .inl lgf')), (sh, .inr (2, [.ref sa, .int cnt', .int call'])), (sa, .inl (cI, 12, .inl swf')), (vh, .inr (3, [.ref va])), (va, .inl (cI, 12, .inl fnf)), (qb, .inl (cI, 12, .inl fb')), (ql, .inl (cI, 12, .inl fl'))]) rfl rfl (by decide) (by decide) (fun r u H locs hw hP hD hS => ?_)
            replace hw := hw.symm
            subst hw
            have hP : va_P D vwCl [(xh, .inr (4, [.ref ch, .ref bh, .ref lg, .int lgd', .ref sh, .ref vh])), (ch, .inr (0, [.ref ca, .int ccc, .int cac, .int cfc, .int clc])), (ca, .inl (cI, 10, .inl cf)), (bh, .inr (0, [.ref ba, .int bcc, .int bac, .int bfc, .int blc])), (ba, .inl (cI, 10, .inl bf')), (lg, .inl (cI, 12, .inl lgf')), (sh, .inr (2, [.ref sa, .int cnt', .int call'])), (sa, .inl (cI, 12, .inl swf')), (vh, .inr (3, [.ref va])), (va, .inl (cI, 12, .inl fnf)), (qb, .inl (cI, 12, .inl fb')), (ql, .inl (cI, 12, .inl fl')), (qg, .inl (cI, 3, .inl fg'))] H := hP
            have hD : va_D A [(xh, .inr (4, [.ref ch, .ref bh, .ref lg, .int lgd', .ref sh, .ref vh])), (ch, .inr (0, [.ref ca, .int ccc, .int cac, .int cfc, .int clc])), (ca, .inl (cI, 10, .inl cf)), (bh, .inr (0, [.ref ba, .int bcc, .int bac, .int bfc, .int blc])), (ba, .inl (cI, 10, .inl bf')), (lg, .inl (cI, 12, .inl lgf')), (sh, .inr (2, [.ref sa, .int cnt', .int call'])), (sa, .inl (cI, 12, .inl swf')), (vh, .inr (3, [.ref va])), (va, .inl (cI, 12, .inl fnf)), (qb, .inl (cI, 12, .inl fb')), (ql, .inl (cI, 12, .inl fl')), (qg, .inl (cI, 3, .inl fg'))] := hD
            refine lv_if_eq (tgt := 146) hx hb dL_runs_132 (by decide) (fun c_69 => ?_) (fun c_69 => ?_)
            · have h := h.1 c_69
              refine lv_iconst (v := 0) hx hb dL_runs_146 (by decide) ?_
              refine lv_istore (lv' := [(10, .int 0), (0, .ref xh), (1, .int p1), (2, .ref qb), (3, .ref qg), (4, .ref ql), (5, .int x5), (6, .int x6), (7, .int x7), (8, .int x8), (9, .int x9), (11, .int x11)]) hx hb dL_runs_147 hl (by decide) rfl (fun ls hl => ?_)
              obtain ⟨y_70, ey_70⟩ : ∃ y : Int32, y = x11 + 1 := ⟨_, rfl⟩
              have h := h y_70 ey_70
              refine lv_iinc (v := y_70) (lv' := [(11, .int y_70), (10, .int 0), (0, .ref xh), (1, .int p1), (2, .ref qb), (3, .ref qg), (4, .ref ql), (5, .int x5), (6, .int x6), (7, .int x7), (8, .int x8), (9, .int x9)]) hx hb dL_runs_149 hl (k := 11) rfl (by rw [ey_70]; rfl) (by decide) rfl (fun ls hl => ?_)
              refine lv_goto (tgt := 107) hx hb dL_runs_152 (by decide) ?_
              exact ih.2.2.1 _ _ _ _ _ _ _ _ _ _ _ _ _ _ _ _ _ _ _ h.1 (Nat.lt_of_lt_of_le h.2 (Nat.le_of_lt_succ hmu)) (hP.sub [0, 1, 2, 3, 4, 5, 6, 7, 8, 9, 10, 12, 11] rfl) (hD.sub [0, 1, 2, 3, 4, 5, 6, 7, 8, 9, 10, 12, 11] (by decide) rfl) hS (lv_sub hl [2, 3, 4, 5, 6, 7, 8, 9, 10, 11, 1, 0] rfl)
            · have h := h.2 c_69
              refine lv_aload_n hx hb dL_runs_135 rfl (lv_at hl 2 rfl) ?_
              refine lv_iload hx hb dL_runs_136 (lv_at hl 11 rfl) ?_
              obtain ⟨i_71, h⟩ := h
              refine va_iald hx hb hK hP 10 0 rfl rfl i_71 dL_runs_138 ?_
              refine lv_if_ne (tgt := 146) hx hb dL_runs_139 (by decide) (fun c_72 => ?_) (fun c_72 => ?_)
              · have h := h.2 c_72
                refine lv_iconst (v := 0) hx hb dL_runs_146 (by decide) ?_
                refine lv_istore (lv' := [(10, .int 0), (0, .ref xh), (1, .int p1), (2, .ref qb), (3, .ref qg), (4, .ref ql), (5, .int x5), (6, .int x6), (7, .int x7), (8, .int x8), (9, .int x9), (11, .int x11)]) hx hb dL_runs_147 hl (by decide) rfl (fun ls hl => ?_)
                obtain ⟨y_73, ey_73⟩ : ∃ y : Int32, y = x11 + 1 := ⟨_, rfl⟩
                have h := h y_73 ey_73
                refine lv_iinc (v := y_73) (lv' := [(11, .int y_73), (10, .int 0), (0, .ref xh), (1, .int p1), (2, .ref qb), (3, .ref qg), (4, .ref ql), (5, .int x5), (6, .int x6), (7, .int x7), (8, .int x8), (9, .int x9)]) hx hb dL_runs_149 hl (k := 11) rfl (by rw [ey_73]; rfl) (by decide) rfl (fun ls hl => ?_)
                refine lv_goto (tgt := 107) hx hb dL_runs_152 (by decide) ?_
                exact ih.2.2.1 _ _ _ _ _ _ _ _ _ _ _ _ _ _ _ _ _ _ _ h.1 (Nat.lt_of_lt_of_le h.2 (Nat.le_of_lt_succ hmu)) (hP.sub [0, 1, 2, 3, 4, 5, 6, 7, 8, 9, 10, 12, 11] rfl) (hD.sub [0, 1, 2, 3, 4, 5, 6, 7, 8, 9, 10, 12, 11] (by decide) rfl) hS (lv_sub hl [2, 3, 4, 5, 6, 7, 8, 9, 10, 11, 1, 0] rfl)
              · have h := h.1 c_72
                refine lv_iconst (v := 1) hx hb dL_runs_142 (by decide) ?_
                refine lv_goto (tgt := 147) hx hb dL_runs_143 (by decide) ?_
                refine lv_istore (lv' := [(10, .int 1), (0, .ref xh), (1, .int p1), (2, .ref qb), (3, .ref qg), (4, .ref ql), (5, .int x5), (6, .int x6), (7, .int x7), (8, .int x8), (9, .int x9), (11, .int x11)]) hx hb dL_runs_147 hl (by decide) rfl (fun ls hl => ?_)
                obtain ⟨y_74, ey_74⟩ : ∃ y : Int32, y = x11 + 1 := ⟨_, rfl⟩
                have h := h y_74 ey_74
                refine lv_iinc (v := y_74) (lv' := [(11, .int y_74), (10, .int 1), (0, .ref xh), (1, .int p1), (2, .ref qb), (3, .ref qg), (4, .ref ql), (5, .int x5), (6, .int x6), (7, .int x7), (8, .int x8), (9, .int x9)]) hx hb dL_runs_149 hl (k := 11) rfl (by rw [ey_74]; rfl) (by decide) rfl (fun ls hl => ?_)
                refine lv_goto (tgt := 107) hx hb dL_runs_152 (by decide) ?_
                exact ih.2.2.1 _ _ _ _ _ _ _ _ _ _ _ _ _ _ _ _ _ _ _ h.1 (Nat.lt_of_lt_of_le h.2 (Nat.le_of_lt_succ hmu)) (hP.sub [0, 1, 2, 3, 4, 5, 6, 7, 8, 9, 10, 12, 11] rfl) (hD.sub [0, 1, 2, 3, 4, 5, 6, 7, 8, 9, 10, 12, 11] (by decide) rfl) hS (lv_sub hl [2, 3, 4, 5, 6, 7, 8, 9, 10, 11, 1, 0] rfl)
      · intro x5 x6 x7 x8 x9 x10 x11 bf' lgf' lgd' cnt' call' swf' fb' fg' fl' H locs ls hI hmu hP hD hS hl
        have h := hv230 x5 x6 x7 x8 x9 x10 x11 bf' lgf' lgd' cnt' call' swf' fb' fg' fl' hI
        unfold vs_L_runs_230 at h
        refine lv_iload hx hb dL_runs_230 (lv_at hl 11 rfl) ?_
        refine lv_if_lt (tgt := 346) hx hb dL_runs_232 (by decide) (fun c_75 => ?_) (fun c_75 => ?_)
        · have h := h.1 c_75
          obtain ⟨y_76, ey_76⟩ : ∃ y : Int32, y = x7 + (-1) := ⟨_, rfl⟩
          have h := h y_76 ey_76
          refine lv_iinc (v := y_76) (lv' := [(7, .int y_76), (0, .ref xh), (1, .int p1), (2, .ref qb), (3, .ref qg), (4, .ref ql), (5, .int x5), (6, .int x6), (8, .int x8), (9, .int x9), (10, .int x10), (11, .int x11)]) hx hb dL_runs_346 hl (k := 7) rfl (by rw [ey_76]; rfl) (by decide) rfl (fun ls hl => ?_)
          refine lv_goto (tgt := 33) hx hb dL_runs_349 (by decide) ?_
          exact ih.1 _ _ _ _ _ _ _ _ _ _ _ _ _ _ _ h.1 (Nat.lt_of_lt_of_le h.2 (Nat.le_of_lt_succ hmu)) (hP.sub [0, 1, 2, 3, 4, 5, 6, 7, 8, 9, 10, 11, 12] rfl) (hD.sub [0, 1, 2, 3, 4, 5, 6, 7, 8, 9, 10, 11, 12] (by decide) rfl) hS (lv_sub hl [1, 2, 3, 4, 5, 6, 7, 0] rfl)
        · have h := h.2 c_75
          refine lv_iload_n hx hb dL_runs_235 rfl (lv_at hl 1 rfl) ?_
          refine lv_iconst (v := 1) hx hb dL_runs_236 (by decide) ?_
          refine lv_icmp_ne (tgt := 346) hx hb dL_runs_237 (by decide) (fun c_77 => ?_) (fun c_77 => ?_)
          · have h := h.2 c_77
            obtain ⟨y_78, ey_78⟩ : ∃ y : Int32, y = x7 + (-1) := ⟨_, rfl⟩
            have h := h y_78 ey_78
            refine lv_iinc (v := y_78) (lv' := [(7, .int y_78), (0, .ref xh), (1, .int p1), (2, .ref qb), (3, .ref qg), (4, .ref ql), (5, .int x5), (6, .int x6), (8, .int x8), (9, .int x9), (10, .int x10), (11, .int x11)]) hx hb dL_runs_346 hl (k := 7) rfl (by rw [ey_78]; rfl) (by decide) rfl (fun ls hl => ?_)
            refine lv_goto (tgt := 33) hx hb dL_runs_349 (by decide) ?_
            exact ih.1 _ _ _ _ _ _ _ _ _ _ _ _ _ _ _ h.1 (Nat.lt_of_lt_of_le h.2 (Nat.le_of_lt_succ hmu)) (hP.sub [0, 1, 2, 3, 4, 5, 6, 7, 8, 9, 10, 11, 12] rfl) (hD.sub [0, 1, 2, 3, 4, 5, 6, 7, 8, 9, 10, 11, 12] (by decide) rfl) hS (lv_sub hl [1, 2, 3, 4, 5, 6, 7, 0] rfl)
          · have h := h.1 c_77
            refine lv_iload hx hb dL_runs_240 (lv_at hl 6 rfl) ?_
            refine lv_if_eq (tgt := 346) hx hb dL_runs_242 (by decide) (fun c_79 => ?_) (fun c_79 => ?_)
            · have h := h.1 c_79
              obtain ⟨y_80, ey_80⟩ : ∃ y : Int32, y = x7 + (-1) := ⟨_, rfl⟩
              have h := h y_80 ey_80
              refine lv_iinc (v := y_80) (lv' := [(7, .int y_80), (0, .ref xh), (1, .int p1), (2, .ref qb), (3, .ref qg), (4, .ref ql), (5, .int x5), (6, .int x6), (8, .int x8), (9, .int x9), (10, .int x10), (11, .int x11)]) hx hb dL_runs_346 hl (k := 7) rfl (by rw [ey_80]; rfl) (by decide) rfl (fun ls hl => ?_)
              refine lv_goto (tgt := 33) hx hb dL_runs_349 (by decide) ?_
              exact ih.1 _ _ _ _ _ _ _ _ _ _ _ _ _ _ _ h.1 (Nat.lt_of_lt_of_le h.2 (Nat.le_of_lt_succ hmu)) (hP.sub [0, 1, 2, 3, 4, 5, 6, 7, 8, 9, 10, 11, 12] rfl) (hD.sub [0, 1, 2, 3, 4, 5, 6, 7, 8, 9, 10, 11, 12] (by decide) rfl) hS (lv_sub hl [1, 2, 3, 4, 5, 6, 7, 0] rfl)
            · have h := h.2 c_79
              refine lv_aload_n hx hb dL_runs_245 rfl (lv_at hl 2 rfl) ?_
              refine lv_iload hx hb dL_runs_246 (lv_at hl 7 rfl) ?_
              obtain ⟨i_81, h⟩ := h
              refine va_iald hx hb hK hP 10 0 rfl rfl i_81 dL_runs_248 ?_
              refine lv_if_ne (tgt := 346) hx hb dL_runs_249 (by decide) (fun c_82 => ?_) (fun c_82 => ?_)
              · have h := h.2 c_82
                obtain ⟨y_83, ey_83⟩ : ∃ y : Int32, y = x7 + (-1) := ⟨_, rfl⟩
                have h := h y_83 ey_83
                refine lv_iinc (v := y_83) (lv' := [(7, .int y_83), (0, .ref xh), (1, .int p1), (2, .ref qb), (3, .ref qg), (4, .ref ql), (5, .int x5), (6, .int x6), (8, .int x8), (9, .int x9), (10, .int x10), (11, .int x11)]) hx hb dL_runs_346 hl (k := 7) rfl (by rw [ey_83]; rfl) (by decide) rfl (fun ls hl => ?_)
                refine lv_goto (tgt := 33) hx hb dL_runs_349 (by decide) ?_
                exact ih.1 _ _ _ _ _ _ _ _ _ _ _ _ _ _ _ h.1 (Nat.lt_of_lt_of_le h.2 (Nat.le_of_lt_succ hmu)) (hP.sub [0, 1, 2, 3, 4, 5, 6, 7, 8, 9, 10, 11, 12] rfl) (hD.sub [0, 1, 2, 3, 4, 5, 6, 7, 8, 9, 10, 11, 12] (by decide) rfl) hS (lv_sub hl [1, 2, 3, 4, 5, 6, 7, 0] rfl)
              · have h := h.1 c_82
                refine lv_aload_n hx hb dL_runs_252 rfl (lv_at hl 2 rfl) ?_
                refine lv_iload hx hb dL_runs_253 (lv_at hl 11 rfl) ?_
                obtain ⟨i_84, h⟩ := h
                refine va_iald hx hb hK hP 10 0 rfl rfl i_84 dL_runs_255 ?_
                refine lv_if_le (tgt := 315) hx hb dL_runs_256 (by decide) (fun c_85 => ?_) (fun c_85 => ?_)
                · have h := h.1 c_85
                  refine lv_iconst (v := 0) hx hb dL_runs_315 (by decide) ?_
                  refine lv_istore (lv' := [(12, .int 0), (0, .ref xh), (1, .int p1), (2, .ref qb), (3, .ref qg), (4, .ref ql), (5, .int x5), (6, .int x6), (7, .int x7), (8, .int x8), (9, .int x9), (10, .int x10), (11, .int x11)]) hx hb dL_runs_316 hl (by decide) rfl (fun ls hl => ?_)
                  refine lv_iload hx hb dL_runs_318 (lv_at hl 0 rfl) ?_
                  refine lv_if_eq (tgt := 336) hx hb dL_runs_320 (by decide) (fun _ => ?_) (fun c_86 => absurd c_86 (by decide))
                  refine lv_iload hx hb dL_runs_336 (lv_at hl 6 rfl) ?_
                  refine lv_istore (lv' := [(5, .int x5), (12, .int 0), (0, .ref xh), (1, .int p1), (2, .ref qb), (3, .ref qg), (4, .ref ql), (6, .int x6), (7, .int x7), (8, .int x8), (9, .int x9), (10, .int x10), (11, .int x11)]) hx hb dL_runs_338 hl (by decide) rfl (fun ls hl => ?_)
                  obtain ⟨y_87, ey_87⟩ : ∃ y : Int32, y = x11 + (-1) := ⟨_, rfl⟩
                  have h := h y_87 ey_87
                  refine lv_iinc (v := y_87) (lv' := [(11, .int y_87), (5, .int x5), (12, .int 0), (0, .ref xh), (1, .int p1), (2, .ref qb), (3, .ref qg), (4, .ref ql), (6, .int x6), (7, .int x7), (8, .int x8), (9, .int x9), (10, .int x10)]) hx hb dL_runs_340 hl (k := 12) rfl (by rw [ey_87]; rfl) (by decide) rfl (fun ls hl => ?_)
                  refine lv_goto (tgt := 230) hx hb dL_runs_343 (by decide) ?_
                  exact ih.2.2.2 _ _ _ _ _ _ _ _ _ _ _ _ _ _ _ _ _ _ _ h.1 (Nat.lt_of_lt_of_le h.2 (Nat.le_of_lt_succ hmu)) (hP.sub [0, 1, 2, 3, 4, 5, 6, 7, 8, 9, 10, 11, 12] rfl) (hD.sub [0, 1, 2, 3, 4, 5, 6, 7, 8, 9, 10, 11, 12] (by decide) rfl) hS (lv_sub hl [3, 4, 5, 6, 7, 1, 8, 9, 10, 11, 12, 0] rfl)
                · have h := h.2 c_85
                  refine lv_aload_n hx hb dL_runs_259 rfl (lv_at hl 0 rfl) ?_
                  refine lv_iload hx hb dL_runs_260 (lv_at hl 11 rfl) ?_
                  obtain ⟨p_88, h⟩ := h
                  have hPc := hP.sub (ws' := [(xh, .inr (4, [.ref ch, .ref bh, .ref lg, .int lgd', .ref sh, .ref vh])), (ch, .inr (0, [.ref ca, .int ccc, .int cac, .int cfc, .int clc])), (ca, .inl (cI, 10, .inl cf)), (bh, .inr (0, [.ref ba, .int bcc, .int bac, .int bfc, .int blc])), (ba, .inl (cI, 10, .inl bf')), (lg, .inl (cI, 12, .inl lgf')), (sh, .inr (2, [.ref sa, .int cnt', .int call'])), (sa, .inl (cI, 12, .inl swf')), (vh, .inr (3, [.ref va])), (va, .inl (cI, 12, .inl fnf))]) [0, 1, 2, 3, 4, 5, 6, 7, 8, 9] rfl
                  have hDc := hD.sub (ws' := [(xh, .inr (4, [.ref ch, .ref bh, .ref lg, .int lgd', .ref sh, .ref vh])), (ch, .inr (0, [.ref ca, .int ccc, .int cac, .int cfc, .int clc])), (ca, .inl (cI, 10, .inl cf)), (bh, .inr (0, [.ref ba, .int bcc, .int bac, .int bfc, .int blc])), (ba, .inl (cI, 10, .inl bf')), (lg, .inl (cI, 12, .inl lgf')), (sh, .inr (2, [.ref sa, .int cnt', .int call'])), (sa, .inl (cI, 12, .inl swf')), (vh, .inr (3, [.ref va])), (va, .inl (cI, 12, .inl fnf))]) [0, 1, 2, 3, 4, 5, 6, 7, 8, 9] (by decide) rfl
                  refine ff_callI (va_runV (As := [.int x11]) (rest := []) ⟨hx, hb, hml, hown, hts⟩ (c_X4_sizeN l D cI xh ch ca bh ba lg sh sa vh va H.size lgd' ccc cac cfc clc cf bcc bac bfc blc bf' lgf' cnt' call' swf' fnf x11 p_88) (cwV 1 hts gL_runs_X4_size rfl rfl rfl (by decide +kernel) ⟨Nat.le_of_ble_eq_true rfl, Nat.le_of_ble_eq_true rfl⟩) (ff_preV (q := (RX4, TX4, 6)) (ci := 4) (q0 := 0) hPc hK hDc hN rfl rfl) rfl rfl hl.1 rfl (lv_room (Nat.le_of_ble_eq_true rfl)) dL_runs_262 ⟨Nat.le_of_ble_eq_true rfl, Nat.le_of_ble_eq_true rfl⟩) hP hD hS hA [0, 1, 2, 3, 4, 5, 6, 7, 8, 9] [10, 11, 12] (wr := [(qb, .inl (cI, 12, .inl fb')), (qg, .inl (cI, 3, .inl fg')), (ql, .inl (cI, 12, .inl fl'))]) rfl rfl (by decide) (by decide) (fun r u H locs hw hP hD hS => ?_)
                  replace hw := hw.symm
                  subst hw
                  have hP : va_P D vwCl [(qb, .inl (cI, 12, .inl fb')), (qg, .inl (cI, 3, .inl fg')), (ql, .inl (cI, 12, .inl fl')), (xh, .inr (4, [.ref ch, .ref bh, .ref lg, .int lgd', .ref sh, .ref vh])), (ch, .inr (0, [.ref ca, .int ccc, .int cac, .int cfc, .int clc])), (ca, .inl (cI, 10, .inl cf)), (bh, .inr (0, [.ref ba, .int bcc, .int bac, .int bfc, .int blc])), (ba, .inl (cI, 10, .inl bf')), (lg, .inl (cI, 12, .inl lgf')), (sh, .inr (2, [.ref sa, .int cnt', .int call'])), (sa, .inl (cI, 12, .inl swf')), (vh, .inr (3, [.ref va])), (va, .inl (cI, 12, .inl fnf))] H := hP
                  have hD : va_D A [(qb, .inl (cI, 12, .inl fb')), (qg, .inl (cI, 3, .inl fg')), (ql, .inl (cI, 12, .inl fl')), (xh, .inr (4, [.ref ch, .ref bh, .ref lg, .int lgd', .ref sh, .ref vh])), (ch, .inr (0, [.ref ca, .int ccc, .int cac, .int cfc, .int clc])), (ca, .inl (cI, 10, .inl cf)), (bh, .inr (0, [.ref ba, .int bcc, .int bac, .int bfc, .int blc])), (ba, .inl (cI, 10, .inl bf')), (lg, .inl (cI, 12, .inl lgf')), (sh, .inr (2, [.ref sa, .int cnt', .int call'])), (sa, .inl (cI, 12, .inl swf')), (vh, .inr (3, [.ref va])), (va, .inl (cI, 12, .inl fnf))] := hD
                  refine lv_aload_n hx hb dL_runs_265 rfl (lv_at hl 2 rfl) ?_
                  refine lv_iload hx hb dL_runs_266 (lv_at hl 11 rfl) ?_
                  obtain ⟨i_89, h⟩ := h
                  refine va_iald hx hb hK hP 0 0 rfl rfl i_89 dL_runs_268 ?_
                  refine lv_icmp_ge (tgt := 315) hx hb dL_runs_269 (by decide) (fun c_90 => ?_) (fun c_90 => ?_)
                  · have h := h.1 c_90
                    refine lv_iconst (v := 0) hx hb dL_runs_315 (by decide) ?_
                    refine lv_istore (lv' := [(12, .int 0), (0, .ref xh), (1, .int p1), (2, .ref qb), (3, .ref qg), (4, .ref ql), (5, .int x5), (6, .int x6), (7, .int x7), (8, .int x8), (9, .int x9), (10, .int x10), (11, .int x11)]) hx hb dL_runs_316 hl (by decide) rfl (fun ls hl => ?_)
                    refine lv_iload hx hb dL_runs_318 (lv_at hl 0 rfl) ?_
                    refine lv_if_eq (tgt := 336) hx hb dL_runs_320 (by decide) (fun _ => ?_) (fun c_91 => absurd c_91 (by decide))
                    refine lv_iload hx hb dL_runs_336 (lv_at hl 6 rfl) ?_
                    refine lv_istore (lv' := [(5, .int x5), (12, .int 0), (0, .ref xh), (1, .int p1), (2, .ref qb), (3, .ref qg), (4, .ref ql), (6, .int x6), (7, .int x7), (8, .int x8), (9, .int x9), (10, .int x10), (11, .int x11)]) hx hb dL_runs_338 hl (by decide) rfl (fun ls hl => ?_)
                    obtain ⟨y_92, ey_92⟩ : ∃ y : Int32, y = x11 + (-1) := ⟨_, rfl⟩
                    have h := h y_92 ey_92
                    refine lv_iinc (v := y_92) (lv' := [(11, .int y_92), (5, .int x5), (12, .int 0), (0, .ref xh), (1, .int p1), (2, .ref qb), (3, .ref qg), (4, .ref ql), (6, .int x6), (7, .int x7), (8, .int x8), (9, .int x9), (10, .int x10)]) hx hb dL_runs_340 hl (k := 12) rfl (by rw [ey_92]; rfl) (by decide) rfl (fun ls hl => ?_)
                    refine lv_goto (tgt := 230) hx hb dL_runs_343 (by decide) ?_
                    exact ih.2.2.2 _ _ _ _ _ _ _ _ _ _ _ _ _ _ _ _ _ _ _ h.1 (Nat.lt_of_lt_of_le h.2 (Nat.le_of_lt_succ hmu)) (hP.sub [3, 4, 5, 6, 7, 8, 9, 10, 11, 12, 0, 1, 2] rfl) (hD.sub [3, 4, 5, 6, 7, 8, 9, 10, 11, 12, 0, 1, 2] (by decide) rfl) hS (lv_sub hl [3, 4, 5, 6, 7, 1, 8, 9, 10, 11, 12, 0] rfl)
                  · have h := h.2 c_90
                    refine lv_aload_n hx hb dL_runs_272 rfl (lv_at hl 0 rfl) ?_
                    refine lv_iload hx hb dL_runs_273 (lv_at hl 7 rfl) ?_
                    refine lv_aload_n hx hb dL_runs_275 rfl (lv_at hl 2 rfl) ?_
                    refine lv_iload hx hb dL_runs_276 (lv_at hl 11 rfl) ?_
                    obtain ⟨i_93, h⟩ := h
                    refine va_iald hx hb hK hP 0 0 rfl rfl i_93 dL_runs_278 ?_
                    obtain ⟨p_94, h⟩ := h
                    have hPc := hP.sub (ws' := [(xh, .inr (4, [.ref ch, .ref bh, .ref lg, .int lgd', .ref sh, .ref vh])), (ch, .inr (0, [.ref ca, .int ccc, .int cac, .int cfc, .int clc])), (ca, .inl (cI, 10, .inl cf)), (bh, .inr (0, [.ref ba, .int bcc, .int bac, .int bfc, .int blc])), (ba, .inl (cI, 10, .inl bf')), (lg, .inl (cI, 12, .inl lgf')), (sh, .inr (2, [.ref sa, .int cnt', .int call'])), (sa, .inl (cI, 12, .inl swf')), (vh, .inr (3, [.ref va])), (va, .inl (cI, 12, .inl fnf))]) [3, 4, 5, 6, 7, 8, 9, 10, 11, 12] rfl
                    have hDc := hD.sub (ws' := [(xh, .inr (4, [.ref ch, .ref bh, .ref lg, .int lgd', .ref sh, .ref vh])), (ch, .inr (0, [.ref ca, .int ccc, .int cac, .int cfc, .int clc])), (ca, .inl (cI, 10, .inl cf)), (bh, .inr (0, [.ref ba, .int bcc, .int bac, .int bfc, .int blc])), (ba, .inl (cI, 10, .inl bf')), (lg, .inl (cI, 12, .inl lgf')), (sh, .inr (2, [.ref sa, .int cnt', .int call'])), (sa, .inl (cI, 12, .inl swf')), (vh, .inr (3, [.ref va])), (va, .inl (cI, 12, .inl fnf))]) [3, 4, 5, 6, 7, 8, 9, 10, 11, 12] (by decide) rfl
                    refine ff_callI (va_runV (As := [.int x7, .int (fb' x11.toNatClampNeg)]) (rest := []) ⟨hx, hb, hml, hown, hts⟩ (c_X4_canBeN l D cI xh ch ca bh ba lg sh sa vh va H.size lgd' ccc cac cfc clc cf bcc bac bfc blc bf' lgf' cnt' call' swf' fnf x7 (fb' x11.toNatClampNeg) p_94) (cwV 2 hts gL_runs_X4_canBe rfl rfl rfl (by decide +kernel) ⟨Nat.le_of_ble_eq_true rfl, Nat.le_of_ble_eq_true rfl⟩) (ff_preV (q := (RX4, TX4, 6)) (ci := 4) (q0 := 0) hPc hK hDc hN rfl rfl) rfl rfl hl.1 rfl (lv_room (Nat.le_of_ble_eq_true rfl)) dL_runs_279 ⟨Nat.le_of_ble_eq_true rfl, Nat.le_of_ble_eq_true rfl⟩) hP hD hS hA [3, 4, 5, 6, 7, 8, 9, 10, 11, 12] [0, 1, 2] (wr := [(qb, .inl (cI, 12, .inl fb')), (qg, .inl (cI, 3, .inl fg')), (ql, .inl (cI, 12, .inl fl'))]) rfl rfl (by decide) (by decide) (fun r u H locs hw hP hD hS => ?_)
                    obtain ⟨e0_w, e1_w⟩ := hw
                    replace e0_w := e0_w.symm
                    subst e0_w
                    replace e1_w := e1_w.symm
                    subst e1_w
                    have hP : va_P D vwCl [(qb, .inl (cI, 12, .inl fb')), (qg, .inl (cI, 3, .inl fg')), (ql, .inl (cI, 12, .inl fl')), (xh, .inr (4, [.ref ch, .ref bh, .ref lg, .int lgd', .ref sh, .ref vh])), (ch, .inr (0, [.ref ca, .int ccc, .int cac, .int cfc, .int clc])), (ca, .inl (cI, 10, .inl cf)), (bh, .inr (0, [.ref ba, .int bcc, .int bac, .int bfc, .int blc])), (ba, .inl (cI, 10, .inl bf')), (lg, .inl (cI, 12, .inl lgf')), (sh, .inr (2, [.ref sa, .int cnt', .int call'])), (sa, .inl (cI, 12, .inl swf')), (vh, .inr (3, [.ref va])), (va, .inl (cI, 12, .inl fnf))] H := hP
                    have hD : va_D A [(qb, .inl (cI, 12, .inl fb')), (qg, .inl (cI, 3, .inl fg')), (ql, .inl (cI, 12, .inl fl')), (xh, .inr (4, [.ref ch, .ref bh, .ref lg, .int lgd', .ref sh, .ref vh])), (ch, .inr (0, [.ref ca, .int ccc, .int cac, .int cfc, .int clc])), (ca, .inl (cI, 10, .inl cf)), (bh, .inr (0, [.ref ba, .int bcc, .int bac, .int bfc, .int blc])), (ba, .inl (cI, 10, .inl bf')), (lg, .inl (cI, 12, .inl lgf')), (sh, .inr (2, [.ref sa, .int cnt', .int call'])), (sa, .inl (cI, 12, .inl swf')), (vh, .inr (3, [.ref va])), (va, .inl (cI, 12, .inl fnf))] := hD
                    refine lv_if_eq (tgt := 315) hx hb dL_runs_282 (by decide) (fun c_95 => ?_) (fun c_95 => ?_)
                    · have h := h.1 c_95
                      refine lv_iconst (v := 0) hx hb dL_runs_315 (by decide) ?_
                      refine lv_istore (lv' := [(12, .int 0), (0, .ref xh), (1, .int p1), (2, .ref qb), (3, .ref qg), (4, .ref ql), (5, .int x5), (6, .int x6), (7, .int x7), (8, .int x8), (9, .int x9), (10, .int x10), (11, .int x11)]) hx hb dL_runs_316 hl (by decide) rfl (fun ls hl => ?_)
                      refine lv_iload hx hb dL_runs_318 (lv_at hl 0 rfl) ?_
                      refine lv_if_eq (tgt := 336) hx hb dL_runs_320 (by decide) (fun _ => ?_) (fun c_96 => absurd c_96 (by decide))
                      refine lv_iload hx hb dL_runs_336 (lv_at hl 6 rfl) ?_
                      refine lv_istore (lv' := [(5, .int x5), (12, .int 0), (0, .ref xh), (1, .int p1), (2, .ref qb), (3, .ref qg), (4, .ref ql), (6, .int x6), (7, .int x7), (8, .int x8), (9, .int x9), (10, .int x10), (11, .int x11)]) hx hb dL_runs_338 hl (by decide) rfl (fun ls hl => ?_)
                      obtain ⟨y_97, ey_97⟩ : ∃ y : Int32, y = x11 + (-1) := ⟨_, rfl⟩
                      have h := h y_97 ey_97
                      refine lv_iinc (v := y_97) (lv' := [(11, .int y_97), (5, .int x5), (12, .int 0), (0, .ref xh), (1, .int p1), (2, .ref qb), (3, .ref qg), (4, .ref ql), (6, .int x6), (7, .int x7), (8, .int x8), (9, .int x9), (10, .int x10)]) hx hb dL_runs_340 hl (k := 12) rfl (by rw [ey_97]; rfl) (by decide) rfl (fun ls hl => ?_)
                      refine lv_goto (tgt := 230) hx hb dL_runs_343 (by decide) ?_
                      exact ih.2.2.2 _ _ _ _ _ _ _ _ _ _ _ _ _ _ _ _ _ _ _ h.1 (Nat.lt_of_lt_of_le h.2 (Nat.le_of_lt_succ hmu)) (hP.sub [3, 4, 5, 6, 7, 8, 9, 10, 11, 12, 0, 1, 2] rfl) (hD.sub [3, 4, 5, 6, 7, 8, 9, 10, 11, 12, 0, 1, 2] (by decide) rfl) hS (lv_sub hl [3, 4, 5, 6, 7, 1, 8, 9, 10, 11, 12, 0] rfl)
                    · have h := h.2 c_95
                      refine lv_aload_n hx hb dL_runs_285 rfl (lv_at hl 0 rfl) ?_
                      refine lv_iload hx hb dL_runs_286 (lv_at hl 11 rfl) ?_
                      obtain ⟨p_98, h⟩ := h
                      have hPc := hP.sub (ws' := [(xh, .inr (4, [.ref ch, .ref bh, .ref lg, .int lgd', .ref sh, .ref vh])), (ch, .inr (0, [.ref ca, .int ccc, .int cac, .int cfc, .int clc])), (ca, .inl (cI, 10, .inl cf)), (bh, .inr (0, [.ref ba, .int bcc, .int bac, .int bfc, .int blc])), (ba, .inl (cI, 10, .inl bf')), (lg, .inl (cI, 12, .inl lgf')), (sh, .inr (2, [.ref sa, .int cnt', .int call'])), (sa, .inl (cI, 12, .inl swf')), (vh, .inr (3, [.ref va])), (va, .inl (cI, 12, .inl fnf))]) [3, 4, 5, 6, 7, 8, 9, 10, 11, 12] rfl
                      have hDc := hD.sub (ws' := [(xh, .inr (4, [.ref ch, .ref bh, .ref lg, .int lgd', .ref sh, .ref vh])), (ch, .inr (0, [.ref ca, .int ccc, .int cac, .int cfc, .int clc])), (ca, .inl (cI, 10, .inl cf)), (bh, .inr (0, [.ref ba, .int bcc, .int bac, .int bfc, .int blc])), (ba, .inl (cI, 10, .inl bf')), (lg, .inl (cI, 12, .inl lgf')), (sh, .inr (2, [.ref sa, .int cnt', .int call'])), (sa, .inl (cI, 12, .inl swf')), (vh, .inr (3, [.ref va])), (va, .inl (cI, 12, .inl fnf))]) [3, 4, 5, 6, 7, 8, 9, 10, 11, 12] (by decide) rfl
                      refine ff_callI (va_runV (As := [.int x11]) (rest := []) ⟨hx, hb, hml, hown, hts⟩ (c_X4_shapesN l D cI xh ch ca bh ba lg sh sa vh va H.size lgd' ccc cac cfc clc cf bcc bac bfc blc bf' lgf' cnt' call' swf' fnf x11 p_98) (cwV 1 hts gL_runs_X4_shapes rfl rfl rfl (by decide +kernel) ⟨Nat.le_of_ble_eq_true rfl, Nat.le_of_ble_eq_true rfl⟩) (ff_preV (q := (RX4, TX4, 6)) (ci := 4) (q0 := 0) hPc hK hDc hN rfl rfl) rfl rfl hl.1 rfl (lv_room (Nat.le_of_ble_eq_true rfl)) dL_runs_288 ⟨Nat.le_of_ble_eq_true rfl, Nat.le_of_ble_eq_true rfl⟩) hP hD hS hA [3, 4, 5, 6, 7, 8, 9, 10, 11, 12] [0, 1, 2] (wr := [(qb, .inl (cI, 12, .inl fb')), (qg, .inl (cI, 3, .inl fg')), (ql, .inl (cI, 12, .inl fl'))]) rfl rfl (by decide) (by decide) (fun r u H locs hw hP hD hS => ?_)
                      obtain ⟨cnt_99, call_99, swf_99⟩ := u
                      have hw : r = (zli bcc bac bfc blc bf' x11 swf').1 := hw
                      have e0_w := hw
                      replace e0_w := e0_w.symm
                      subst e0_w
                      have h := h cnt_99 call_99 swf_99
                      have hP : va_P D vwCl [(qb, .inl (cI, 12, .inl fb')), (qg, .inl (cI, 3, .inl fg')), (ql, .inl (cI, 12, .inl fl')), (xh, .inr (4, [.ref ch, .ref bh, .ref lg, .int lgd', .ref sh, .ref vh])), (ch, .inr (0, [.ref ca, .int ccc, .int cac, .int cfc, .int clc])), (ca, .inl (cI, 10, .inl cf)), (bh, .inr (0, [.ref ba, .int bcc, .int bac, .int bfc, .int blc])), (ba, .inl (cI, 10, .inl bf')), (lg, .inl (cI, 12, .inl lgf')), (sh, .inr (2, [.ref sa, .int cnt_99, .int call_99])), (sa, .inl (cI, 12, .inl swf_99)), (vh, .inr (3, [.ref va])), (va, .inl (cI, 12, .inl fnf))] H := hP
                      have hD : va_D A [(qb, .inl (cI, 12, .inl fb')), (qg, .inl (cI, 3, .inl fg')), (ql, .inl (cI, 12, .inl fl')), (xh, .inr (4, [.ref ch, .ref bh, .ref lg, .int lgd', .ref sh, .ref vh])), (ch, .inr (0, [.ref ca, .int ccc, .int cac, .int cfc, .int clc])), (ca, .inl (cI, 10, .inl cf)), (bh, .inr (0, [.ref ba, .int bcc, .int bac, .int bfc, .int blc])), (ba, .inl (cI, 10, .inl bf')), (lg, .inl (cI, 12, .inl lgf')), (sh, .inr (2, [.ref sa, .int cnt_99, .int call_99])), (sa, .inl (cI, 12, .inl swf_99)), (vh, .inr (3, [.ref va])), (va, .inl (cI, 12, .inl fnf))] := hD
                      refine lv_if_le (tgt := 315) hx hb dL_runs_291 (by decide) (fun c_100 => ?_) (fun c_100 => ?_)
                      · have h := h.1 c_100
                        refine lv_iconst (v := 0) hx hb dL_runs_315 (by decide) ?_
                        refine lv_istore (lv' := [(12, .int 0), (0, .ref xh), (1, .int p1), (2, .ref qb), (3, .ref qg), (4, .ref ql), (5, .int x5), (6, .int x6), (7, .int x7), (8, .int x8), (9, .int x9), (10, .int x10), (11, .int x11)]) hx hb dL_runs_316 hl (by decide) rfl (fun ls hl => ?_)
                        refine lv_iload hx hb dL_runs_318 (lv_at hl 0 rfl) ?_
                        refine lv_if_eq (tgt := 336) hx hb dL_runs_320 (by decide) (fun _ => ?_) (fun c_101 => absurd c_101 (by decide))
                        refine lv_iload hx hb dL_runs_336 (lv_at hl 6 rfl) ?_
                        refine lv_istore (lv' := [(5, .int x5), (12, .int 0), (0, .ref xh), (1, .int p1), (2, .ref qb), (3, .ref qg), (4, .ref ql), (6, .int x6), (7, .int x7), (8, .int x8), (9, .int x9), (10, .int x10), (11, .int x11)]) hx hb dL_runs_338 hl (by decide) rfl (fun ls hl => ?_)
                        obtain ⟨y_102, ey_102⟩ : ∃ y : Int32, y = x11 + (-1) := ⟨_, rfl⟩
                        have h := h y_102 ey_102
                        refine lv_iinc (v := y_102) (lv' := [(11, .int y_102), (5, .int x5), (12, .int 0), (0, .ref xh), (1, .int p1), (2, .ref qb), (3, .ref qg), (4, .ref ql), (6, .int x6), (7, .int x7), (8, .int x8), (9, .int x9), (10, .int x10)]) hx hb dL_runs_340 hl (k := 12) rfl (by rw [ey_102]; rfl) (by decide) rfl (fun ls hl => ?_)
                        refine lv_goto (tgt := 230) hx hb dL_runs_343 (by decide) ?_
                        exact ih.2.2.2 _ _ _ _ _ _ _ _ _ _ _ _ _ _ _ _ _ _ _ h.1 (Nat.lt_of_lt_of_le h.2 (Nat.le_of_lt_succ hmu)) (hP.sub [3, 4, 5, 6, 7, 8, 9, 10, 11, 12, 0, 1, 2] rfl) (hD.sub [3, 4, 5, 6, 7, 8, 9, 10, 11, 12, 0, 1, 2] (by decide) rfl) hS (lv_sub hl [3, 4, 5, 6, 7, 1, 8, 9, 10, 11, 12, 0] rfl)
                      · have h := h.2 c_100
                        refine lv_aload_n hx hb dL_runs_294 rfl (lv_at hl 0 rfl) ?_
                        refine lv_iload hx hb dL_runs_295 (lv_at hl 11 rfl) ?_
                        refine lv_iload hx hb dL_runs_297 (lv_at hl 7 rfl) ?_
                        obtain ⟨p_103, h⟩ := h
                        have hPc := hP.sub (ws' := [(xh, .inr (4, [.ref ch, .ref bh, .ref lg, .int lgd', .ref sh, .ref vh])), (ch, .inr (0, [.ref ca, .int ccc, .int cac, .int cfc, .int clc])), (ca, .inl (cI, 10, .inl cf)), (bh, .inr (0, [.ref ba, .int bcc, .int bac, .int bfc, .int blc])), (ba, .inl (cI, 10, .inl bf')), (lg, .inl (cI, 12, .inl lgf')), (sh, .inr (2, [.ref sa, .int cnt_99, .int call_99])), (sa, .inl (cI, 12, .inl swf_99)), (vh, .inr (3, [.ref va])), (va, .inl (cI, 12, .inl fnf))]) [3, 4, 5, 6, 7, 8, 9, 10, 11, 12] rfl
                        have hDc := hD.sub (ws' := [(xh, .inr (4, [.ref ch, .ref bh, .ref lg, .int lgd', .ref sh, .ref vh])), (ch, .inr (0, [.ref ca, .int ccc, .int cac, .int cfc, .int clc])), (ca, .inl (cI, 10, .inl cf)), (bh, .inr (0, [.ref ba, .int bcc, .int bac, .int bfc, .int blc])), (ba, .inl (cI, 10, .inl bf')), (lg, .inl (cI, 12, .inl lgf')), (sh, .inr (2, [.ref sa, .int cnt_99, .int call_99])), (sa, .inl (cI, 12, .inl swf_99)), (vh, .inr (3, [.ref va])), (va, .inl (cI, 12, .inl fnf))]) [3, 4, 5, 6, 7, 8, 9, 10, 11, 12] (by decide) rfl
                        refine ff_callI (va_runV (As := [.int x11, .int x7]) (rest := []) ⟨hx, hb, hml, hown, hts⟩ (c_X4_shapesWithN l D cI xh ch ca bh ba lg sh sa vh va H.size lgd' ccc cac cfc clc cf bcc bac bfc blc bf' lgf' cnt_99 call_99 swf_99 fnf x11 x7 p_103) (cwV 2 hts gL_runs_X4_shapesWith rfl rfl rfl (by decide +kernel) ⟨Nat.le_of_ble_eq_true rfl, Nat.le_of_ble_eq_true rfl⟩) (ff_preV (q := (RX4, TX4, 6)) (ci := 4) (q0 := 0) hPc hK hDc hN rfl rfl) rfl rfl hl.1 rfl (lv_room (Nat.le_of_ble_eq_true rfl)) dL_runs_299 ⟨Nat.le_of_ble_eq_true rfl, Nat.le_of_ble_eq_true rfl⟩) hP hD hS hA [3, 4, 5, 6, 7, 8, 9, 10, 11, 12] [0, 1, 2] (wr := [(qb, .inl (cI, 12, .inl fb')), (qg, .inl (cI, 3, .inl fg')), (ql, .inl (cI, 12, .inl fl'))]) rfl rfl (by decide) (by decide) (fun r u H locs hw hP hD hS => ?_)
                        obtain ⟨cnt_104, call_104, swf_104⟩ := u
                        have hw : r = zsw (zli bcc bac bfc blc bf' x11 swf_99).2.2 x7 := hw
                        have e0_w := hw
                        replace e0_w := e0_w.symm
                        subst e0_w
                        have h := h cnt_104 call_104 swf_104
                        have hP : va_P D vwCl [(qb, .inl (cI, 12, .inl fb')), (qg, .inl (cI, 3, .inl fg')), (ql, .inl (cI, 12, .inl fl')), (xh, .inr (4, [.ref ch, .ref bh, .ref lg, .int lgd', .ref sh, .ref vh])), (ch, .inr (0, [.ref ca, .int ccc, .int cac, .int cfc, .int clc])), (ca, .inl (cI, 10, .inl cf)), (bh, .inr (0, [.ref ba, .int bcc, .int bac, .int bfc, .int blc])), (ba, .inl (cI, 10, .inl bf')), (lg, .inl (cI, 12, .inl lgf')), (sh, .inr (2, [.ref sa, .int cnt_104, .int call_104])), (sa, .inl (cI, 12, .inl swf_104)), (vh, .inr (3, [.ref va])), (va, .inl (cI, 12, .inl fnf))] H := hP
                        have hD : va_D A [(qb, .inl (cI, 12, .inl fb')), (qg, .inl (cI, 3, .inl fg')), (ql, .inl (cI, 12, .inl fl')), (xh, .inr (4, [.ref ch, .ref bh, .ref lg, .int lgd', .ref sh, .ref vh])), (ch, .inr (0, [.ref ca, .int ccc, .int cac, .int cfc, .int clc])), (ca, .inl (cI, 10, .inl cf)), (bh, .inr (0, [.ref ba, .int bcc, .int bac, .int bfc, .int blc])), (ba, .inl (cI, 10, .inl bf')), (lg, .inl (cI, 12, .inl lgf')), (sh, .inr (2, [.ref sa, .int cnt_104, .int call_104])), (sa, .inl (cI, 12, .inl swf_104)), (vh, .inr (3, [.ref va])), (va, .inl (cI, 12, .inl fnf))] := hD
                        refine lv_aload_n hx hb dL_runs_302 rfl (lv_at hl 0 rfl) ?_
                        refine lv_iload hx hb dL_runs_303 (lv_at hl 11 rfl) ?_
                        obtain ⟨p_105, h⟩ := h
                        have hPc := hP.sub (ws' := [(xh, .inr (4, [.ref ch, .ref bh, .ref lg, .int lgd', .ref sh, .ref vh])), (ch, .inr (0, [.ref ca, .int ccc, .int cac, .int cfc, .int clc])), (ca, .inl (cI, 10, .inl cf)), (bh, .inr (0, [.ref ba, .int bcc, .int bac, .int bfc, .int blc])), (ba, .inl (cI, 10, .inl bf')), (lg, .inl (cI, 12, .inl lgf')), (sh, .inr (2, [.ref sa, .int cnt_104, .int call_104])), (sa, .inl (cI, 12, .inl swf_104)), (vh, .inr (3, [.ref va])), (va, .inl (cI, 12, .inl fnf))]) [3, 4, 5, 6, 7, 8, 9, 10, 11, 12] rfl
                        have hDc := hD.sub (ws' := [(xh, .inr (4, [.ref ch, .ref bh, .ref lg, .int lgd', .ref sh, .ref vh])), (ch, .inr (0, [.ref ca, .int ccc, .int cac, .int cfc, .int clc])), (ca, .inl (cI, 10, .inl cf)), (bh, .inr (0, [.ref ba, .int bcc, .int bac, .int bfc, .int blc])), (ba, .inl (cI, 10, .inl bf')), (lg, .inl (cI, 12, .inl lgf')), (sh, .inr (2, [.ref sa, .int cnt_104, .int call_104])), (sa, .inl (cI, 12, .inl swf_104)), (vh, .inr (3, [.ref va])), (va, .inl (cI, 12, .inl fnf))]) [3, 4, 5, 6, 7, 8, 9, 10, 11, 12] (by decide) rfl
                        refine ff_callI (va_runV (As := [.int x11]) (rest := [.int (zsw (zli bcc bac bfc blc bf' x11 swf_99).2.2 x7)]) ⟨hx, hb, hml, hown, hts⟩ (c_X4_shapesN l D cI xh ch ca bh ba lg sh sa vh va H.size lgd' ccc cac cfc clc cf bcc bac bfc blc bf' lgf' cnt_104 call_104 swf_104 fnf x11 p_105) (cwV 1 hts gL_runs_X4_shapes rfl rfl rfl (by decide +kernel) ⟨Nat.le_of_ble_eq_true rfl, Nat.le_of_ble_eq_true rfl⟩) (ff_preV (q := (RX4, TX4, 6)) (ci := 4) (q0 := 0) hPc hK hDc hN rfl rfl) rfl rfl hl.1 rfl (lv_room (Nat.le_of_ble_eq_true rfl)) dL_runs_305 ⟨Nat.le_of_ble_eq_true rfl, Nat.le_of_ble_eq_true rfl⟩) hP hD hS hA [3, 4, 5, 6, 7, 8, 9, 10, 11, 12] [0, 1, 2] (wr := [(qb, .inl (cI, 12, .inl fb')), (qg, .inl (cI, 3, .inl fg')), (ql, .inl (cI, 12, .inl fl'))]) rfl rfl (by decide) (by decide) (fun r u H locs hw hP hD hS => ?_)
                        obtain ⟨cnt_106, call_106, swf_106⟩ := u
                        have hw : r = (zli bcc bac bfc blc bf' x11 swf_104).1 := hw
                        have e0_w := hw
                        replace e0_w := e0_w.symm
                        subst e0_w
                        have h := h cnt_106 call_106 swf_106
                        have hP : va_P D vwCl [(qb, .inl (cI, 12, .inl fb')), (qg, .inl (cI, 3, .inl fg')), (ql, .inl (cI, 12, .inl fl')), (xh, .inr (4, [.ref ch, .ref bh, .ref lg, .int lgd', .ref sh, .ref vh])), (ch, .inr (0, [.ref ca, .int ccc, .int cac, .int cfc, .int clc])), (ca, .inl (cI, 10, .inl cf)), (bh, .inr (0, [.ref ba, .int bcc, .int bac, .int bfc, .int blc])), (ba, .inl (cI, 10, .inl bf')), (lg, .inl (cI, 12, .inl lgf')), (sh, .inr (2, [.ref sa, .int cnt_106, .int call_106])), (sa, .inl (cI, 12, .inl swf_106)), (vh, .inr (3, [.ref va])), (va, .inl (cI, 12, .inl fnf))] H := hP
                        have hD : va_D A [(qb, .inl (cI, 12, .inl fb')), (qg, .inl (cI, 3, .inl fg')), (ql, .inl (cI, 12, .inl fl')), (xh, .inr (4, [.ref ch, .ref bh, .ref lg, .int lgd', .ref sh, .ref vh])), (ch, .inr (0, [.ref ca, .int ccc, .int cac, .int cfc, .int clc])), (ca, .inl (cI, 10, .inl cf)), (bh, .inr (0, [.ref ba, .int bcc, .int bac, .int bfc, .int blc])), (ba, .inl (cI, 10, .inl bf')), (lg, .inl (cI, 12, .inl lgf')), (sh, .inr (2, [.ref sa, .int cnt_106, .int call_106])), (sa, .inl (cI, 12, .inl swf_106)), (vh, .inr (3, [.ref va])), (va, .inl (cI, 12, .inl fnf))] := hD
                        refine lv_icmp_ne (tgt := 315) hx hb dL_runs_308 (by decide) (fun c_107 => ?_) (fun c_107 => ?_)
                        · have h := h.2 c_107
                          refine lv_iconst (v := 0) hx hb dL_runs_315 (by decide) ?_
                          refine lv_istore (lv' := [(12, .int 0), (0, .ref xh), (1, .int p1), (2, .ref qb), (3, .ref qg), (4, .ref ql), (5, .int x5), (6, .int x6), (7, .int x7), (8, .int x8), (9, .int x9), (10, .int x10), (11, .int x11)]) hx hb dL_runs_316 hl (by decide) rfl (fun ls hl => ?_)
                          refine lv_iload hx hb dL_runs_318 (lv_at hl 0 rfl) ?_
                          refine lv_if_eq (tgt := 336) hx hb dL_runs_320 (by decide) (fun _ => ?_) (fun c_108 => absurd c_108 (by decide))
                          refine lv_iload hx hb dL_runs_336 (lv_at hl 6 rfl) ?_
                          refine lv_istore (lv' := [(5, .int x5), (12, .int 0), (0, .ref xh), (1, .int p1), (2, .ref qb), (3, .ref qg), (4, .ref ql), (6, .int x6), (7, .int x7), (8, .int x8), (9, .int x9), (10, .int x10), (11, .int x11)]) hx hb dL_runs_338 hl (by decide) rfl (fun ls hl => ?_)
                          obtain ⟨y_109, ey_109⟩ : ∃ y : Int32, y = x11 + (-1) := ⟨_, rfl⟩
                          have h := h y_109 ey_109
                          refine lv_iinc (v := y_109) (lv' := [(11, .int y_109), (5, .int x5), (12, .int 0), (0, .ref xh), (1, .int p1), (2, .ref qb), (3, .ref qg), (4, .ref ql), (6, .int x6), (7, .int x7), (8, .int x8), (9, .int x9), (10, .int x10)]) hx hb dL_runs_340 hl (k := 12) rfl (by rw [ey_109]; rfl) (by decide) rfl (fun ls hl => ?_)
                          refine lv_goto (tgt := 230) hx hb dL_runs_343 (by decide) ?_
                          exact ih.2.2.2 _ _ _ _ _ _ _ _ _ _ _ _ _ _ _ _ _ _ _ h.1 (Nat.lt_of_lt_of_le h.2 (Nat.le_of_lt_succ hmu)) (hP.sub [3, 4, 5, 6, 7, 8, 9, 10, 11, 12, 0, 1, 2] rfl) (hD.sub [3, 4, 5, 6, 7, 8, 9, 10, 11, 12, 0, 1, 2] (by decide) rfl) hS (lv_sub hl [3, 4, 5, 6, 7, 1, 8, 9, 10, 11, 12, 0] rfl)
                        · have h := h.1 c_107
                          refine lv_iconst (v := 1) hx hb dL_runs_311 (by decide) ?_
                          refine lv_goto (tgt := 316) hx hb dL_runs_312 (by decide) ?_
                          refine lv_istore (lv' := [(12, .int 1), (0, .ref xh), (1, .int p1), (2, .ref qb), (3, .ref qg), (4, .ref ql), (5, .int x5), (6, .int x6), (7, .int x7), (8, .int x8), (9, .int x9), (10, .int x10), (11, .int x11)]) hx hb dL_runs_316 hl (by decide) rfl (fun ls hl => ?_)
                          refine lv_iload hx hb dL_runs_318 (lv_at hl 0 rfl) ?_
                          refine lv_if_eq (tgt := 336) hx hb dL_runs_320 (by decide) (fun c_110 => absurd c_110 (by decide)) (fun _ => ?_)
                          refine lv_bipush (v := 10) hx hb dL_runs_323 (by decide) ?_
                          refine lv_iload hx hb dL_runs_325 (lv_at hl 8 rfl) ?_
                          refine lv_imul hx hb dL_runs_327 ?_
                          refine lv_aload_n hx hb dL_runs_328 rfl (lv_at hl 3 rfl) ?_
                          refine lv_iload hx hb dL_runs_329 (lv_at hl 12 rfl) ?_
                          obtain ⟨i_111, h⟩ := h
                          refine va_iald hx hb hK hP 0 0 rfl rfl i_111 dL_runs_331 ?_
                          refine lv_iadd hx hb dL_runs_332 ?_
                          refine lv_goto (tgt := 338) hx hb dL_runs_333 (by decide) ?_
                          refine lv_topi (fun y_112 ey_112 => ?_)
                          have h := h y_112 ey_112
                          refine lv_istore (lv' := [(5, .int y_112), (12, .int 1), (0, .ref xh), (1, .int p1), (2, .ref qb), (3, .ref qg), (4, .ref ql), (6, .int x6), (7, .int x7), (8, .int x8), (9, .int x9), (10, .int x10), (11, .int x11)]) hx hb dL_runs_338 hl (by decide) rfl (fun ls hl => ?_)
                          obtain ⟨y_113, ey_113⟩ : ∃ y : Int32, y = x11 + (-1) := ⟨_, rfl⟩
                          have h := h y_113 ey_113
                          refine lv_iinc (v := y_113) (lv' := [(11, .int y_113), (5, .int y_112), (12, .int 1), (0, .ref xh), (1, .int p1), (2, .ref qb), (3, .ref qg), (4, .ref ql), (6, .int x6), (7, .int x7), (8, .int x8), (9, .int x9), (10, .int x10)]) hx hb dL_runs_340 hl (k := 12) rfl (by rw [ey_113]; rfl) (by decide) rfl (fun ls hl => ?_)
                          refine lv_goto (tgt := 230) hx hb dL_runs_343 (by decide) ?_
                          exact ih.2.2.2 _ _ _ _ _ _ _ _ _ _ _ _ _ _ _ _ _ _ _ h.1 (Nat.lt_of_lt_of_le h.2 (Nat.le_of_lt_succ hmu)) (hP.sub [3, 4, 5, 6, 7, 8, 9, 10, 11, 12, 0, 1, 2] rfl) (hD.sub [3, 4, 5, 6, 7, 8, 9, 10, 11, 12, 0, 1, 2] (by decide) rfl) hS (lv_sub hl [3, 4, 5, 6, 7, 1, 8, 9, 10, 11, 12, 0] rfl)
  have L33 := fun N => (LL33 N).1
  have L50 := fun N => (LL33 N).2.1
  have L107 := fun N => (LL33 N).2.2.1
  have L230 := fun N => (LL33 N).2.2.2
  have h := he
  unfold ve_L_runs at h
  have hl : lv_has ls 13 [(0, .ref xh), (1, .int p1), (2, .ref qb), (3, .ref qg), (4, .ref ql)] := hl
  refine lv_iconst (v := (-1)) hx hb dL_runs_0 (by decide) ?_
  refine lv_istore (lv' := [(5, .int (-1)), (0, .ref xh), (1, .int p1), (2, .ref qb), (3, .ref qg), (4, .ref ql)]) hx hb dL_runs_1 hl (by decide) rfl (fun ls hl => ?_)
  refine lv_aload_n hx hb dL_runs_3 rfl (lv_at hl 4 rfl) ?_
  refine lv_iconst (v := 0) hx hb dL_runs_4 (by decide) ?_
  refine ff_ialdK hx hb hK hP 11 0 rfl rfl (vp_in_nI (n := 0) (N := 3) (by decide) (by decide)) (k := 0) rfl dL_runs_5 ?_
  refine lv_aload_n hx hb dL_runs_6 rfl (lv_at hl 4 rfl) ?_
  refine lv_iconst (v := 1) hx hb dL_runs_7 (by decide) ?_
  refine ff_ialdK hx hb hK hP 11 0 rfl rfl (vp_in_nI (n := 1) (N := 3) (by decide) (by decide)) (k := 1) rfl dL_runs_8 ?_
  refine lv_imul hx hb dL_runs_9 ?_
  refine lv_bipush (v := 9) hx hb dL_runs_10 (by decide) ?_
  refine lv_icmp_gt (tgt := 19) hx hb dL_runs_12 (by decide) (fun c_114 => ?_) (fun c_114 => ?_)
  · have h := h.1 c_114
    refine lv_iconst (v := 0) hx hb dL_runs_19 (by decide) ?_
    refine lv_istore (lv' := [(6, .int 0), (5, .int (-1)), (0, .ref xh), (1, .int p1), (2, .ref qb), (3, .ref qg), (4, .ref ql)]) hx hb dL_runs_20 hl (by decide) rfl (fun ls hl => ?_)
    refine lv_aload_n hx hb dL_runs_22 rfl (lv_at hl 5 rfl) ?_
    refine lv_iconst (v := 0) hx hb dL_runs_23 (by decide) ?_
    refine ff_ialdK hx hb hK hP 11 0 rfl rfl (vp_in_nI (n := 0) (N := 3) (by decide) (by decide)) (k := 0) rfl dL_runs_24 ?_
    refine lv_aload_n hx hb dL_runs_25 rfl (lv_at hl 5 rfl) ?_
    refine lv_iconst (v := 1) hx hb dL_runs_26 (by decide) ?_
    refine ff_ialdK hx hb hK hP 11 0 rfl rfl (vp_in_nI (n := 1) (N := 3) (by decide) (by decide)) (k := 1) rfl dL_runs_27 ?_
    refine lv_imul hx hb dL_runs_28 ?_
    refine lv_iconst (v := 1) hx hb dL_runs_29 (by decide) ?_
    refine lv_isub hx hb dL_runs_30 ?_
    refine lv_topi (fun y_115 ey_115 => ?_)
    have h := h y_115 ey_115
    refine lv_istore (lv' := [(7, .int y_115), (6, .int 0), (5, .int (-1)), (0, .ref xh), (1, .int p1), (2, .ref qb), (3, .ref qg), (4, .ref ql)]) hx hb dL_runs_31 hl (by decide) rfl (fun ls hl => ?_)
    exact L33 _ _ _ _ _ _ _ _ _ _ _ _ _ _ _ _ h (Nat.lt_succ_self _) (hP.sub [0, 1, 2, 3, 4, 5, 6, 7, 8, 9, 10, 11, 12] rfl) (hD.sub [0, 1, 2, 3, 4, 5, 6, 7, 8, 9, 10, 11, 12] (by decide) rfl) hS (lv_sub hl [3, 4, 5, 6, 7, 2, 1, 0] rfl)
  · have h := h.2 c_114
    refine lv_iconst (v := 1) hx hb dL_runs_15 (by decide) ?_
    refine lv_goto (tgt := 20) hx hb dL_runs_16 (by decide) ?_
    refine lv_istore (lv' := [(6, .int 1), (5, .int (-1)), (0, .ref xh), (1, .int p1), (2, .ref qb), (3, .ref qg), (4, .ref ql)]) hx hb dL_runs_20 hl (by decide) rfl (fun ls hl => ?_)
    refine lv_aload_n hx hb dL_runs_22 rfl (lv_at hl 5 rfl) ?_
    refine lv_iconst (v := 0) hx hb dL_runs_23 (by decide) ?_
    refine ff_ialdK hx hb hK hP 11 0 rfl rfl (vp_in_nI (n := 0) (N := 3) (by decide) (by decide)) (k := 0) rfl dL_runs_24 ?_
    refine lv_aload_n hx hb dL_runs_25 rfl (lv_at hl 5 rfl) ?_
    refine lv_iconst (v := 1) hx hb dL_runs_26 (by decide) ?_
    refine ff_ialdK hx hb hK hP 11 0 rfl rfl (vp_in_nI (n := 1) (N := 3) (by decide) (by decide)) (k := 1) rfl dL_runs_27 ?_
    refine lv_imul hx hb dL_runs_28 ?_
    refine lv_iconst (v := 1) hx hb dL_runs_29 (by decide) ?_
    refine lv_isub hx hb dL_runs_30 ?_
    refine lv_topi (fun y_116 ey_116 => ?_)
    have h := h y_116 ey_116
    refine lv_istore (lv' := [(7, .int y_116), (6, .int 1), (5, .int (-1)), (0, .ref xh), (1, .int p1), (2, .ref qb), (3, .ref qg), (4, .ref ql)]) hx hb dL_runs_31 hl (by decide) rfl (fun ls hl => ?_)
    exact L33 _ _ _ _ _ _ _ _ _ _ _ _ _ _ _ _ h (Nat.lt_succ_self _) (hP.sub [0, 1, 2, 3, 4, 5, 6, 7, 8, 9, 10, 11, 12] rfl) (hD.sub [0, 1, 2, 3, 4, 5, 6, 7, 8, 9, 10, 11, 12] (by decide) rfl) hS (lv_sub hl [3, 4, 5, 6, 7, 2, 1, 0] rfl)
theorem c_L_runs (l : Launch) (D : va_G) (cI : ClassId) (xh ch ca bh ba lg sh sa vh va qb qg ql : Nat) (sz : Nat) (lgd : Int32) (ccc : Int32) (cac : Int32) (cfc : Int32) (clc : Int32) (cf : Nat → Int32) (bcc : Int32) (bac : Int32) (bfc : Int32) (blc : Int32) (bf : Nat → Int32) (lgf : Nat → Int32) (cnt : Int32) (call : Int32) (swf : Nat → Int32) (fnf : Nat → Int32) (fb : Nat → Int32) (fg : Nat → Int32) (fl : Nat → Int32) (p1 : Int32) (hpre : (∃ z, PI lgd ccc cac cfc clc cf bcc bac bfc blc bf lgf fb z fg fl) ∧ min3 p1 0 2 = true) : Met l yL_runs wsL_runs ({ frames := 38, cells := 0, slots := 0, locals := 1026 } : Room) (ff_Pc D [(cI, .int)] [.ref xh, .int p1, .ref qb, .ref qg, .ref ql] ([(xh, .inr (4, [.ref ch, .ref bh, .ref lg, .int lgd, .ref sh, .ref vh])), (ch, .inr (0, [.ref ca, .int ccc, .int cac, .int cfc, .int clc])), (ca, .inl (cI, 10, .inl cf)), (bh, .inr (0, [.ref ba, .int bcc, .int bac, .int bfc, .int blc])), (ba, .inl (cI, 10, .inl bf)), (lg, .inl (cI, 12, .inl lgf)), (sh, .inr (2, [.ref sa, .int cnt, .int call])), (sa, .inl (cI, 12, .inl swf)), (vh, .inr (3, [.ref va])), (va, .inl (cI, 12, .inl fnf)), (qb, .inl (cI, 12, .inl fb)), (qg, .inl (cI, 3, .inl fg)), (ql, .inl (cI, 12, .inl fl))] : va_W) sz) (va_Qi (fun (r : Int32) (u : (Nat → Int32) × (Nat → Int32) × Int32 × Int32 × Int32 × (Nat → Int32) × (Nat → Int32) × (Nat → Int32) × (Nat → Int32)) => r = 1 ∧ (∀ z, PI lgd ccc cac cfc clc cf bcc bac bfc blc bf lgf fb z fg fl → PI u.2.2.1 ccc cac cfc clc cf bcc bac bfc blc u.1 u.2.1 u.2.2.2.2.2.2.1 z u.2.2.2.2.2.2.2.1 u.2.2.2.2.2.2.2.2)) (fun (u : (Nat → Int32) × (Nat → Int32) × Int32 × Int32 × Int32 × (Nat → Int32) × (Nat → Int32) × (Nat → Int32) × (Nat → Int32)) t => ff_B D [(cI, .int)] (va_A ([(xh, .inr (4, [.ref ch, .ref bh, .ref lg, .int lgd, .ref sh, .ref vh])), (ch, .inr (0, [.ref ca, .int ccc, .int cac, .int cfc, .int clc])), (ca, .inl (cI, 10, .inl cf)), (bh, .inr (0, [.ref ba, .int bcc, .int bac, .int bfc, .int blc])), (ba, .inl (cI, 10, .inl bf)), (lg, .inl (cI, 12, .inl lgf)), (sh, .inr (2, [.ref sa, .int cnt, .int call])), (sa, .inl (cI, 12, .inl swf)), (vh, .inr (3, [.ref va])), (va, .inl (cI, 12, .inl fnf)), (qb, .inl (cI, 12, .inl fb)), (qg, .inl (cI, 3, .inl fg)), (ql, .inl (cI, 12, .inl fl))] : va_W) sz) [(xh, .inr (4, [.ref ch, .ref bh, .ref lg, .int (u.2.2.1), .ref sh, .ref vh])), (ch, .inr (0, [.ref ca, .int ccc, .int cac, .int cfc, .int clc])), (ca, .inl (cI, 10, .inl cf)), (bh, .inr (0, [.ref ba, .int bcc, .int bac, .int bfc, .int blc])), (ba, .inl (cI, 10, .inl (u.1))), (lg, .inl (cI, 12, .inl (u.2.1))), (sh, .inr (2, [.ref sa, .int (u.2.2.2.1), .int (u.2.2.2.2.1)])), (sa, .inl (cI, 12, .inl (u.2.2.2.2.2.1))), (vh, .inr (3, [.ref va])), (va, .inl (cI, 12, .inl fnf)), (qb, .inl (cI, 12, .inl (u.2.2.2.2.2.2.1))), (qg, .inl (cI, 3, .inl (u.2.2.2.2.2.2.2.1))), (ql, .inl (cI, 12, .inl (u.2.2.2.2.2.2.2.2)))] t) (va_A ([(xh, .inr (4, [.ref ch, .ref bh, .ref lg, .int lgd, .ref sh, .ref vh])), (ch, .inr (0, [.ref ca, .int ccc, .int cac, .int cfc, .int clc])), (ca, .inl (cI, 10, .inl cf)), (bh, .inr (0, [.ref ba, .int bcc, .int bac, .int bfc, .int blc])), (ba, .inl (cI, 10, .inl bf)), (lg, .inl (cI, 12, .inl lgf)), (sh, .inr (2, [.ref sa, .int cnt, .int call])), (sa, .inl (cI, 12, .inl swf)), (vh, .inr (3, [.ref va])), (va, .inl (cI, 12, .inl fnf)), (qb, .inl (cI, 12, .inl fb)), (qg, .inl (cI, 3, .inl fg)), (ql, .inl (cI, 12, .inl fl))] : va_W) sz)) 0 0 (va_A ([(xh, .inr (4, [.ref ch, .ref bh, .ref lg, .int lgd, .ref sh, .ref vh])), (ch, .inr (0, [.ref ca, .int ccc, .int cac, .int cfc, .int clc])), (ca, .inl (cI, 10, .inl cf)), (bh, .inr (0, [.ref ba, .int bcc, .int bac, .int bfc, .int blc])), (ba, .inl (cI, 10, .inl bf)), (lg, .inl (cI, 12, .inl lgf)), (sh, .inr (2, [.ref sa, .int cnt, .int call])), (sa, .inl (cI, 12, .inl swf)), (vh, .inr (3, [.ref va])), (va, .inl (cI, 12, .inl fnf)), (qb, .inl (cI, 12, .inl fb)), (qg, .inl (cI, 3, .inl fg)), (ql, .inl (cI, 12, .inl fl))] : va_W) sz) :=
  a_L_runs l D cI xh ch ca bh ba lg sh sa vh va qb qg ql sz lgd ccc cac cfc clc cf bcc bac bfc blc bf lgf cnt call swf fnf fb fg fl p1 _ (I_L_runs_33 lgd ccc cac cfc clc cf bcc bac bfc blc bf lgf cnt call swf fnf fb fg fl p1) (mu_L_runs_33 lgd ccc cac cfc clc cf bcc bac bfc blc bf lgf cnt call swf fnf fb fg fl p1) (I_L_runs_50 lgd ccc cac cfc clc cf bcc bac bfc blc bf lgf cnt call swf fnf fb fg fl p1) (mu_L_runs_50 lgd ccc cac cfc clc cf bcc bac bfc blc bf lgf cnt call swf fnf fb fg fl p1) (I_L_runs_107 lgd ccc cac cfc clc cf bcc bac bfc blc bf lgf cnt call swf fnf fb fg fl p1) (mu_L_runs_107 lgd ccc cac cfc clc cf bcc bac bfc blc bf lgf cnt call swf fnf fb fg fl p1) (I_L_runs_230 lgd ccc cac cfc clc cf bcc bac bfc blc bf lgf cnt call swf fnf fb fg fl p1) (mu_L_runs_230 lgd ccc cac cfc clc cf bcc bac bfc blc bf lgf cnt call swf fnf fb fg fl p1) (I_L_runs_389 lgd ccc cac cfc clc cf bcc bac bfc blc bf lgf cnt call swf fnf fb fg fl p1) (mu_L_runs_389 lgd ccc cac cfc clc cf bcc bac bfc blc bf lgf cnt call swf fnf fb fg fl p1) (I_L_runs_418 lgd ccc cac cfc clc cf bcc bac bfc blc bf lgf cnt call swf fnf fb fg fl p1) (mu_L_runs_418 lgd ccc cac cfc clc cf bcc bac bfc blc bf lgf cnt call swf fnf fb fg fl p1) (pl_L_runs_33 lgd ccc cac cfc clc cf bcc bac bfc blc bf lgf cnt call swf fnf fb fg fl p1 hpre) (pl_L_runs_50 lgd ccc cac cfc clc cf bcc bac bfc blc bf lgf cnt call swf fnf fb fg fl p1 hpre) (pl_L_runs_107 lgd ccc cac cfc clc cf bcc bac bfc blc bf lgf cnt call swf fnf fb fg fl p1 hpre) (pl_L_runs_230 lgd ccc cac cfc clc cf bcc bac bfc blc bf lgf cnt call swf fnf fb fg fl p1 hpre) (pl_L_runs_389 lgd ccc cac cfc clc cf bcc bac bfc blc bf lgf cnt call swf fnf fb fg fl p1 hpre) (pl_L_runs_418 lgd ccc cac cfc clc cf bcc bac bfc blc bf lgf cnt call swf fnf fb fg fl p1 hpre) (pe_L_runs lgd ccc cac cfc clc cf bcc bac bfc blc bf lgf cnt call swf fnf fb fg fl p1 hpre)
