def ve_L_fills (lgd : Int32) (ccc : Int32) (cac : Int32) (cfc : Int32) (clc : Int32) (cf : Nat → Int32) (bcc : Int32) (bac : Int32) (bfc : Int32) (blc : Int32) (bf : Nat → Int32) (lgf : Nat → Int32) (cnt : Int32) (call : Int32) (swf : Nat → Int32) (fnf : Nat → Int32) (p1 : Int32) (p2 : Int32) (P : Int32 → ((Nat → Int32) × (Nat → Int32) × Int32) → Prop)  : Prop := (zval bf) ∧ (¬ (zxf bcc bac bfc blc bf p1 p2) = 0 → ((zxf bcc bac bfc blc bf p1 p2) = 3) ∧ ((zxf bcc bac bfc blc bf p1 p2) = 3 → P (-8) (bf, lgf, lgd))) ∧ ((zxf bcc bac bfc blc bf p1 p2) = 0 → P (bc (zfo bcc bac bfc blc (if zlg lgd then zwr bf p1 p2 else bf) p1)) (if zlg lgd then zwr bf p1 p2 else bf, if zlg lgd then upd lgf lgd.toNatClampNeg p1 else lgf, if zlg lgd then lgd + 1 else lgd))
def ve_L_clues (lgd : Int32) (ccc : Int32) (cac : Int32) (cfc : Int32) (clc : Int32) (cf : Nat → Int32) (bcc : Int32) (bac : Int32) (bfc : Int32) (blc : Int32) (bf : Nat → Int32) (lgf : Nat → Int32) (cnt : Int32) (call : Int32) (swf : Nat → Int32) (fnf : Nat → Int32) (p1 : Int32) (p2 : Int32) (P : Int32 → ((Nat → Int32) × Int32 × Int32 × Int32 × Int32 × (Nat → Int32) × Int32) → Prop)  : Prop := (¬ (zxu ccc cac cfc clc cf bac p1 p2) = 0 → ((zxu ccc cac cfc clc cf bac p1 p2) = 3) ∧ ((zxu ccc cac cfc clc cf bac p1 p2) = 3 → P (-8) (zcu ccc cac cfc clc cf bac p1 p2, bcc, bac, bfc, blc, bf, lgd))) ∧ ((zxu ccc cac cfc clc cf bac p1 p2) = 0 → P (zni cf p1 9) (zwr cf p1 p2, ccc, cac, cfc, clc, zcp bf (zwr cf p1 p2), 0))
def ve_L_noted (fb : Nat → Int32) (fg : Nat → Int32) (fl : Nat → Int32) (p3 : Int32) (p4 : Int32) (P : ((Nat → Int32) × (Nat → Int32) × (Nat → Int32)) → Prop)  : Prop := vp_in p3 12 ∧ vp_in (fg 2) 12 ∧ P (upd fb p3.toNatClampNeg p4, upd fl (fg 2 : Int32).toNatClampNeg p3, upd fg 2 ((fg 2) + 1))
def vs_L_sets_9 (lgd : Int32) (ccc : Int32) (cac : Int32) (cfc : Int32) (clc : Int32) (cf : Nat → Int32) (bcc : Int32) (bac : Int32) (bfc : Int32) (blc : Int32) (bf : Nat → Int32) (lgf : Nat → Int32) (cnt : Int32) (call : Int32) (swf : Nat → Int32) (fnf : Nat → Int32) (fb : Nat → Int32) (fk : Nat → Int32) (fg : Nat → Int32) (fl : Nat → Int32) (p1 : Int32) (p2 : Int32) (P : Int32 → (Int32 × Int32 × Int32 × Int32 × (Nat → Int32) × (Nat → Int32) × Int32 × (Nat → Int32) × (Nat → Int32) × (Nat → Int32)) → Prop) (J9 : Int32 → Int32 → Int32 → Int32 → Int32 → (Nat → Int32) → (Nat → Int32) → Int32 → (Nat → Int32) → (Nat → Int32) → (Nat → Int32) → Nat → (Nat → Int32) → Prop) (J109 : Int32 → Int32 → Int32 → Int32 → Int32 → Int32 → Int32 → Int32 → (Nat → Int32) → (Nat → Int32) → Int32 → (Nat → Int32) → (Nat → Int32) → (Nat → Int32) → Nat → (Nat → Int32) → Prop) (x8 : Int32) (bcc' : Int32) (bac' : Int32) (bfc' : Int32) (blc' : Int32) (bf' : Nat → Int32) (cf' : Nat → Int32) (lgd' : Int32) (fb' : Nat → Int32) (fk' : Nat → Int32) (fg' : Nat → Int32) (qt : Nat) (ft : Nat → Int32) : Prop := (12 ≤ x8 → (PG ft fg') ∧ ∀ y_12 : Int32, y_12 = b2i (lso ft fg') → vp_in p1 12 ∧ ((fk' p1.toNatClampNeg) = 1 → vp_in p1 12 ∧ ∀ y_20 : Int32, y_20 = fb' p1.toNatClampNeg → ((zxu ccc cac cfc clc cf' bac' p1 p2 = 0 ∨ zxu ccc cac cfc clc cf' bac' p1 p2 = 3)) ∧ ∀ (r_22 : Int32) (cf_22 : Nat → Int32) (bcc_22 : Int32) (bac_22 : Int32) (bfc_22 : Int32) (blc_22 : Int32) (bf_22 : Nat → Int32) (lgd_22 : Int32), ((zxu ccc cac cfc clc cf' bac' p1 p2 = 0 → r_22 = zni cf' p1 9 ∧ cf_22 = zwr cf' p1 p2 ∧ bcc_22 = ccc ∧ bac_22 = cac ∧ bfc_22 = cfc ∧ blc_22 = clc ∧ bf_22 = zcp bf' (zwr cf' p1 p2) ∧ lgd_22 = 0) ∧ (¬ zxu ccc cac cfc clc cf' bac' p1 p2 = 0 → r_22 = -8 ∧ cf_22 = zcu ccc cac cfc clc cf' bac' p1 p2 ∧ bcc_22 = bcc' ∧ bac_22 = bac' ∧ bfc_22 = bfc' ∧ blc_22 = blc' ∧ bf_22 = bf' ∧ lgd_22 = lgd')) → (y_12 = 0 → (r_22 = (-8) → P 1 (bcc_22, bac_22, bfc_22, blc_22, bf_22, cf_22, lgd_22, fb', fk', fg')) ∧ (¬ r_22 = (-8) → P 0 (bcc_22, bac_22, bfc_22, blc_22, bf_22, cf_22, lgd_22, fb', fk', fg'))) ∧ (¬ y_12 = 0 → (J109 y_12 y_20 r_22 0 bcc_22 bac_22 bfc_22 blc_22 bf_22 cf_22 lgd_22 fb' fk' fg' qt ft))) ∧ (¬ (fk' p1.toNatClampNeg) = 1 → ((zxu ccc cac cfc clc cf' bac' p1 p2 = 0 ∨ zxu ccc cac cfc clc cf' bac' p1 p2 = 3)) ∧ ∀ (r_16 : Int32) (cf_16 : Nat → Int32) (bcc_16 : Int32) (bac_16 : Int32) (bfc_16 : Int32) (blc_16 : Int32) (bf_16 : Nat → Int32) (lgd_16 : Int32), ((zxu ccc cac cfc clc cf' bac' p1 p2 = 0 → r_16 = zni cf' p1 9 ∧ cf_16 = zwr cf' p1 p2 ∧ bcc_16 = ccc ∧ bac_16 = cac ∧ bfc_16 = cfc ∧ blc_16 = clc ∧ bf_16 = zcp bf' (zwr cf' p1 p2) ∧ lgd_16 = 0) ∧ (¬ zxu ccc cac cfc clc cf' bac' p1 p2 = 0 → r_16 = -8 ∧ cf_16 = zcu ccc cac cfc clc cf' bac' p1 p2 ∧ bcc_16 = bcc' ∧ bac_16 = bac' ∧ bfc_16 = bfc' ∧ blc_16 = blc' ∧ bf_16 = bf' ∧ lgd_16 = lgd')) → (y_12 = 0 → (r_16 = (-8) → P 1 (bcc_16, bac_16, bfc_16, blc_16, bf_16, cf_16, lgd_16, fb', fk', fg')) ∧ (¬ r_16 = (-8) → P 0 (bcc_16, bac_16, bfc_16, blc_16, bf_16, cf_16, lgd_16, fb', fk', fg'))) ∧ (¬ y_12 = 0 → (J109 y_12 0 r_16 0 bcc_16 bac_16 bfc_16 blc_16 bf_16 cf_16 lgd_16 fb' fk' fg' qt ft)))) ∧ (¬ 12 ≤ x8 → (x8 = p1 → vp_in x8 12 ∧ ∀ y_34 : Int32, y_34 = x8 + 1 → (J9 y_34 bcc' bac' bfc' blc' bf' cf' lgd' fb' fk' fg' qt (upd ft x8.toNatClampNeg p2))) ∧ (¬ x8 = p1 → vp_in x8 12 ∧ ((fk' x8.toNatClampNeg) = 1 → vp_in x8 12 ∧ vp_in x8 12 ∧ ∀ y_32 : Int32, y_32 = x8 + 1 → (J9 y_32 bcc' bac' bfc' blc' bf' cf' lgd' fb' fk' fg' qt (upd ft x8.toNatClampNeg (fb' x8.toNatClampNeg)))) ∧ (¬ (fk' x8.toNatClampNeg) = 1 → vp_in x8 12 ∧ ∀ y_29 : Int32, y_29 = x8 + 1 → (J9 y_29 bcc' bac' bfc' blc' bf' cf' lgd' fb' fk' fg' qt (upd ft x8.toNatClampNeg 0)))))
def vs_L_sets_109 (lgd : Int32) (ccc : Int32) (cac : Int32) (cfc : Int32) (clc : Int32) (cf : Nat → Int32) (bcc : Int32) (bac : Int32) (bfc : Int32) (blc : Int32) (bf : Nat → Int32) (lgf : Nat → Int32) (cnt : Int32) (call : Int32) (swf : Nat → Int32) (fnf : Nat → Int32) (fb : Nat → Int32) (fk : Nat → Int32) (fg : Nat → Int32) (fl : Nat → Int32) (p1 : Int32) (p2 : Int32) (P : Int32 → (Int32 × Int32 × Int32 × Int32 × (Nat → Int32) × (Nat → Int32) × Int32 × (Nat → Int32) × (Nat → Int32) × (Nat → Int32)) → Prop) (J9 : Int32 → Int32 → Int32 → Int32 → Int32 → (Nat → Int32) → (Nat → Int32) → Int32 → (Nat → Int32) → (Nat → Int32) → (Nat → Int32) → Nat → (Nat → Int32) → Prop) (J109 : Int32 → Int32 → Int32 → Int32 → Int32 → Int32 → Int32 → Int32 → (Nat → Int32) → (Nat → Int32) → Int32 → (Nat → Int32) → (Nat → Int32) → (Nat → Int32) → Nat → (Nat → Int32) → Prop) (x8 : Int32) (x9 : Int32) (x10 : Int32) (x11 : Int32) (bcc' : Int32) (bac' : Int32) (bfc' : Int32) (blc' : Int32) (bf' : Nat → Int32) (cf' : Nat → Int32) (lgd' : Int32) (fb' : Nat → Int32) (fk' : Nat → Int32) (fg' : Nat → Int32) (qt : Nat) (ft : Nat → Int32) : Prop := (12 ≤ x11 → (p2 ≤ 0 → vp_in p1 12 ∧ (x10 = x9 → P 1 (bcc', bac', bfc', blc', bf', cf', lgd', fb', upd fk' p1.toNatClampNeg 0, upd fg' 2 0)) ∧ (¬ x10 = x9 → P 0 (bcc', bac', bfc', blc', bf', cf', lgd', fb', upd fk' p1.toNatClampNeg 0, upd fg' 2 0))) ∧ (¬ p2 ≤ 0 → vp_in p1 12 ∧ (x10 = x9 → P 1 (bcc', bac', bfc', blc', bf', cf', lgd', fb', upd fk' p1.toNatClampNeg 1, upd fg' 2 0)) ∧ (¬ x10 = x9 → P 0 (bcc', bac', bfc', blc', bf', cf', lgd', fb', upd fk' p1.toNatClampNeg 1, upd fg' 2 0)))) ∧ (¬ 12 ≤ x11 → vp_in x11 12 ∧ vp_in x11 12 ∧ ∀ y_9 : Int32, y_9 = x11 + 1 → (J109 x8 x9 x10 y_9 bcc' bac' bfc' blc' bf' cf' lgd' (upd fb' x11.toNatClampNeg (ft x11.toNatClampNeg)) fk' fg' qt ft))
def ve_L_sets (lgd : Int32) (ccc : Int32) (cac : Int32) (cfc : Int32) (clc : Int32) (cf : Nat → Int32) (bcc : Int32) (bac : Int32) (bfc : Int32) (blc : Int32) (bf : Nat → Int32) (lgf : Nat → Int32) (cnt : Int32) (call : Int32) (swf : Nat → Int32) (fnf : Nat → Int32) (fb : Nat → Int32) (fk : Nat → Int32) (fg : Nat → Int32) (fl : Nat → Int32) (p1 : Int32) (p2 : Int32) (P : Int32 → (Int32 × Int32 × Int32 × Int32 × (Nat → Int32) × (Nat → Int32) × Int32 × (Nat → Int32) × (Nat → Int32) × (Nat → Int32)) → Prop) (J9 : Int32 → Int32 → Int32 → Int32 → Int32 → (Nat → Int32) → (Nat → Int32) → Int32 → (Nat → Int32) → (Nat → Int32) → (Nat → Int32) → Nat → (Nat → Int32) → Prop) (J109 : Int32 → Int32 → Int32 → Int32 → Int32 → Int32 → Int32 → Int32 → (Nat → Int32) → (Nat → Int32) → Int32 → (Nat → Int32) → (Nat → Int32) → (Nat → Int32) → Nat → (Nat → Int32) → Prop) : Prop := ∀ qn35 : Nat, (J9 0 bcc bac bfc blc bf cf lgd fb fk fg qn35 (fun _ => 0))
theorem pe_L_fills (lgd : Int32) (ccc : Int32) (cac : Int32) (cfc : Int32) (clc : Int32) (cf : Nat → Int32) (bcc : Int32) (bac : Int32) (bfc : Int32) (blc : Int32) (bf : Nat → Int32) (lgf : Nat → Int32) (cnt : Int32) (call : Int32) (swf : Nat → Int32) (fnf : Nat → Int32) (p1 : Int32) (p2 : Int32) (hpre : (zval bf) ∧ (zxf bcc bac bfc blc bf p1 p2 = 0 ∨ zxf bcc bac bfc blc bf p1 p2 = 3)) : ve_L_fills lgd ccc cac cfc clc cf bcc bac bfc blc bf lgf cnt call swf fnf p1 p2 (fun (r : Int32) (u : (Nat → Int32) × (Nat → Int32) × Int32) => ((zxf bcc bac bfc blc bf p1 p2 = 0 → r = bc (zfo bcc bac bfc blc (if zlg lgd then zwr bf p1 p2 else bf) p1) ∧ u.1 = (if zlg lgd then zwr bf p1 p2 else bf) ∧ u.2.1 = (if zlg lgd then upd lgf lgd.toNatClampNeg p1 else lgf) ∧ u.2.2 = (if zlg lgd then lgd + 1 else lgd)) ∧ (¬ zxf bcc bac bfc blc bf p1 p2 = 0 → r = -8 ∧ u.1 = bf ∧ u.2.1 = lgf ∧ u.2.2 = lgd)))  := by
  obtain ⟨hv, h⟩ := hpre
  refine ⟨hv, fun c => ⟨h.resolve_left c, fun _ => ⟨fun z => absurd z c, fun _ => ⟨rfl, rfl, rfl, rfl⟩⟩⟩, fun c => ⟨fun _ => ⟨rfl, rfl, rfl, rfl⟩, fun z => absurd c z⟩⟩
theorem pe_L_clues (lgd : Int32) (ccc : Int32) (cac : Int32) (cfc : Int32) (clc : Int32) (cf : Nat → Int32) (bcc : Int32) (bac : Int32) (bfc : Int32) (blc : Int32) (bf : Nat → Int32) (lgf : Nat → Int32) (cnt : Int32) (call : Int32) (swf : Nat → Int32) (fnf : Nat → Int32) (p1 : Int32) (p2 : Int32) (hpre : (zxu ccc cac cfc clc cf bac p1 p2 = 0 ∨ zxu ccc cac cfc clc cf bac p1 p2 = 3)) : ve_L_clues lgd ccc cac cfc clc cf bcc bac bfc blc bf lgf cnt call swf fnf p1 p2 (fun (r : Int32) (u : (Nat → Int32) × Int32 × Int32 × Int32 × Int32 × (Nat → Int32) × Int32) => ((zxu ccc cac cfc clc cf bac p1 p2 = 0 → r = zni cf p1 9 ∧ u.1 = zwr cf p1 p2 ∧ u.2.1 = ccc ∧ u.2.2.1 = cac ∧ u.2.2.2.1 = cfc ∧ u.2.2.2.2.1 = clc ∧ u.2.2.2.2.2.1 = zcp bf (zwr cf p1 p2) ∧ u.2.2.2.2.2.2 = 0) ∧ (¬ zxu ccc cac cfc clc cf bac p1 p2 = 0 → r = -8 ∧ u.1 = zcu ccc cac cfc clc cf bac p1 p2 ∧ u.2.1 = bcc ∧ u.2.2.1 = bac ∧ u.2.2.2.1 = bfc ∧ u.2.2.2.2.1 = blc ∧ u.2.2.2.2.2.1 = bf ∧ u.2.2.2.2.2.2 = lgd)))  := by
  refine ⟨fun c => ⟨hpre.resolve_left c, fun _ => ⟨fun z => absurd z c, fun _ => ⟨rfl, rfl, rfl, rfl, rfl, rfl, rfl, rfl⟩⟩⟩, fun c => ⟨fun _ => ⟨rfl, rfl, rfl, rfl, rfl, rfl, rfl, rfl⟩, fun z => absurd c z⟩⟩
theorem pe_L_noted (fb : Nat → Int32) (fg : Nat → Int32) (fl : Nat → Int32) (p3 : Int32) (p4 : Int32) (hpre : vp_in p3 12 ∧ vp_in (fg 2) 12) : ve_L_noted fb fg fl p3 p4 (fun (u : (Nat → Int32) × (Nat → Int32) × (Nat → Int32)) => u = (upd fb p3.toNatClampNeg p4, upd fl (fg 2).toNatClampNeg p3, upd fg 2 (fg 2 + 1)))  := ⟨hpre.1, hpre.2, rfl⟩
/-- the board of clues with a new one -/
def thn (fb fk : Nat → Int32) (p1 p2 : Int32) : Nat → Int32 := fun i => if nI i = p1 then p2 else if fk i = 1 then fb i else 0
def tho (fb fk : Nat → Int32) (p1 p2 : Int32) (d : Nat → Int32) (j : Nat) : Nat → Int32 := fun i => if i < j then thn fb fk p1 p2 i else d i
theorem tho_step (fb fk : Nat → Int32) (p1 p2 : Int32) (d : Nat → Int32) (j : Nat) : upd (tho fb fk p1 p2 d j) j (thn fb fk p1 p2 j) = tho fb fk p1 p2 d (j + 1) := by
  funext i
  unfold upd tho
  by_cases e : i = j
  · rw [if_pos e, if_pos (by omega), e]
  · rw [if_neg e]
    by_cases h : i < j
    · rw [if_pos h, if_pos (by omega)]
    · rw [if_neg h, if_neg (by omega)]
theorem tho_0 (fb fk : Nat → Int32) (p1 p2 : Int32) (d : Nat → Int32) : tho fb fk p1 p2 d 0 = d := by
  funext i
  unfold tho
  rw [if_neg (Nat.not_lt_zero _)]
section
variable {rw co : Int32} {r c N n : Nat} {bf cf fb fk lgf fl : Nat → Int32} {cl : Int32} {k v : Nat}
theorem thn_clb (hN : N ≤ 12) (hk : k < N) (hkk : ∀ k, k < 12 → fk k = if bt cl k then 1 else 0) {i : Nat} (hi : i < 12) : upd (clb cl fb) k (nI v) i = thn fb fk (nI k) (nI v) i := by
  unfold upd thn clb
  by_cases e : i = k
  · rw [if_pos e, if_pos (by rw [e])]
  · rw [if_neg e, if_neg (fun z => e (nI_inj (by omega) (by omega) z)), hkk i hi]
    cases bt cl i with
    | true => rfl
    | false => rfl
theorem thn_bv (hb : bv 12 fb) (hv : v < 10) (hN : N ≤ 12) (hk : k < N) (hkk : ∀ k, k < 12 → fk k = if bt cl k then 1 else 0) {d : Nat → Int32} : bv 12 (tho fb fk (nI k) (nI v) d 12) := by
  intro i hi
  unfold tho
  rw [if_pos hi, ← thn_clb (fb := fb) (v := v) hN hk hkk hi]
  exact bv_upd (clb_bv hb) hv i hi
theorem thn_FB (hC : FB N cf (clb cl fb)) (hN : N ≤ 12) (hk : k < N) (hv : v < 10) (hkk : ∀ k, k < 12 → fk k = if bt cl k then 1 else 0) {d : Nat → Int32} : FB N (zwr cf (nI k) (nI v)) (tho fb fk (nI k) (nI v) d 12) :=
  FB_congr (zwr_FB hC hN hk hv) (fun i hi => by
    rw [thn_clb hN hk hkk (by omega)]
    unfold tho
    rw [if_pos (by omega)])
theorem sets_end (g : gok rw co r c N) (hC : FB N cf (clb cl fb)) (hb : bv 12 fb) (hcl : ∀ i, bt cl i = true → i < N ∧ ¬ fb i = 0) (hkk : ∀ k, k < 12 → fk k = if bt cl k then 1 else 0) (hk : k < N) (hv : v < 10) (hS : SND rw co (zwr cf (nI k) (nI v))) (bf lgf fl d : Nat → Int32) :
    RB rw co r c N (zcp bf (zwr cf (nI k) (nI v))) (zwr cf (nI k) (nI v)) (tho fb fk (nI k) (nI v) d 12) (mclc cl (nI k) (nI v)) ∧ RL_ N (zcp bf (zwr cf (nI k) (nI v))) (tho fb fk (nI k) (nI v) d 12) (mclc cl (nI k) (nI v)) lgf fl 0 ∧ ∀ i, i < 12 → upd fk k (if v = 0 then 0 else 1) i = if bt (mclc cl (nI k) (nI v)) i then 1 else 0 := by
  have hN := (gN g).2
  have hD := thn_FB (d := d) hC hN hk hv hkk
  have hb' := thn_bv (d := d) hb hv hN hk hkk
  have hD2 := FB_zcp (f := bf) hD
  have hc : ∀ i, bt (mclc cl (nI k) (nI v)) i = true ↔ i < N ∧ ¬ tho fb fk (nI k) (nI v) d 12 i = 0 := by
    intro i
    by_cases h32 : i < 32
    · rw [bt_mclc (by omega) hv h32]
      by_cases e : i = k
      · subst e
        have e2 : tho fb fk (nI i) (nI v) d 12 i = nI v := by unfold tho thn; rw [if_pos (by omega), if_pos rfl]
        rw [if_pos rfl, decide_eq_true_eq, e2]
        constructor
        · intro z; exact ⟨hk, nI_ne0 (by omega) (by omega)⟩
        · rintro ⟨_, z⟩ q; exact z (by rw [q, nI_0])
      · rw [if_neg e]
        by_cases hi : i < N
        · have e2 : tho fb fk (nI k) (nI v) d 12 i = if bt cl i then fb i else 0 := by
            unfold tho
            rw [if_pos (by omega), ← thn_clb hN hk hkk (by omega)]
            unfold upd clb
            rw [if_neg e]
          rw [e2]
          constructor
          · intro z
            rw [if_pos z]
            exact ⟨hi, (hcl i z).2⟩
          · rintro ⟨_, z⟩
            by_cases hq : bt cl i = true
            · exact hq
            · rw [if_neg hq] at z; exact absurd rfl z
        · exact ⟨fun z => absurd (hcl i z).1 hi, fun z => absurd z.1 hi⟩
    · rw [bt_hi _ (by omega)]
      exact ⟨fun z => absurd z (by decide), fun z => by omega⟩
  refine ⟨RB_new g hD2 hD hb' (SND_congr g hD hD2 (bv_le hN hb') hS) hc, RL_new g hD2 hc, fun i hi => ?_⟩
  rw [bt_mclc (by omega) hv (by omega)]
  unfold upd
  by_cases e : i = k
  · rw [if_pos e, if_pos e]
    by_cases h0 : v = 0
    · rw [if_pos h0, decide_eq_false (fun z => z h0)]; rfl
    · rw [if_neg h0, decide_eq_true h0]; rfl
  · rw [if_neg e, if_neg e, hkk i hi]
end
theorem num_09 {a : Int32} (h : min3 a 0 9 = true) : ∃ v, v < 10 ∧ a = nI v ∧ ¬ (¬ a = 0 ∧ ¬ zxn a = 0) := by
  rcases num0 a with ⟨v, hv, e, -, d⟩ | ⟨d, -⟩
  · exact ⟨v, hv, e, d⟩
  · rw [h] at d; cases d
def I_L_sets_9 (lgd : Int32) (ccc : Int32) (cac : Int32) (cfc : Int32) (clc : Int32) (cf : Nat → Int32) (bcc : Int32) (bac : Int32) (bfc : Int32) (blc : Int32) (bf : Nat → Int32) (lgf : Nat → Int32) (cnt : Int32) (call : Int32) (swf : Nat → Int32) (fnf : Nat → Int32) (fb : Nat → Int32) (fk : Nat → Int32) (fg : Nat → Int32) (fl : Nat → Int32) (p1 : Int32) (p2 : Int32) : Int32 → Int32 → Int32 → Int32 → Int32 → (Nat → Int32) → (Nat → Int32) → Int32 → (Nat → Int32) → (Nat → Int32) → (Nat → Int32) → Nat → (Nat → Int32) → Prop := fun x8 bcc' bac' bfc' blc' bf' cf' lgd' fb' fk' fg' qt ft => bcc = bcc' ∧ bac = bac' ∧ bfc = bfc' ∧ blc = blc' ∧ bf = bf' ∧ cf = cf' ∧ lgd = lgd' ∧ fb = fb' ∧ fk = fk' ∧ fg = fg' ∧ ∃ j : Nat, j ≤ 12 ∧ x8 = nI j ∧ ft = tho fb fk p1 p2 (fun _ => 0) j
def mu_L_sets_9 (lgd : Int32) (ccc : Int32) (cac : Int32) (cfc : Int32) (clc : Int32) (cf : Nat → Int32) (bcc : Int32) (bac : Int32) (bfc : Int32) (blc : Int32) (bf : Nat → Int32) (lgf : Nat → Int32) (cnt : Int32) (call : Int32) (swf : Nat → Int32) (fnf : Nat → Int32) (fb : Nat → Int32) (fk : Nat → Int32) (fg : Nat → Int32) (fl : Nat → Int32) (p1 : Int32) (p2 : Int32) : Int32 → Int32 → Int32 → Int32 → Int32 → (Nat → Int32) → (Nat → Int32) → Int32 → (Nat → Int32) → (Nat → Int32) → (Nat → Int32) → Nat → (Nat → Int32) → Nat := fun x8 bcc' bac' bfc' blc' bf' cf' lgd' fb' fk' fg' qt ft => 12 - x8.toNatClampNeg
def I_L_sets_109 (lgd : Int32) (ccc : Int32) (cac : Int32) (cfc : Int32) (clc : Int32) (cf : Nat → Int32) (bcc : Int32) (bac : Int32) (bfc : Int32) (blc : Int32) (bf : Nat → Int32) (lgf : Nat → Int32) (cnt : Int32) (call : Int32) (swf : Nat → Int32) (fnf : Nat → Int32) (fb : Nat → Int32) (fk : Nat → Int32) (fg : Nat → Int32) (fl : Nat → Int32) (p1 : Int32) (p2 : Int32) : Int32 → Int32 → Int32 → Int32 → Int32 → Int32 → Int32 → Int32 → (Nat → Int32) → (Nat → Int32) → Int32 → (Nat → Int32) → (Nat → Int32) → (Nat → Int32) → Nat → (Nat → Int32) → Prop := fun x8 x9 x10 x11 bcc' bac' bfc' blc' bf' cf' lgd' fb' fk' fg' qt ft => x10 = x9 ∧ bcc' = ccc ∧ bac' = cac ∧ bfc' = cfc ∧ blc' = clc ∧ bf' = zcp bf (zwr cf p1 p2) ∧ cf' = zwr cf p1 p2 ∧ lgd' = 0 ∧ fk = fk' ∧ fg = fg' ∧ ft = tho fb fk p1 p2 (fun _ => 0) 12 ∧ SND (fg 0) (fg 1) (zwr cf p1 p2) ∧ ∃ j : Nat, j ≤ 12 ∧ x11 = nI j ∧ fb' = tho fb fk p1 p2 fb j
def mu_L_sets_109 (lgd : Int32) (ccc : Int32) (cac : Int32) (cfc : Int32) (clc : Int32) (cf : Nat → Int32) (bcc : Int32) (bac : Int32) (bfc : Int32) (blc : Int32) (bf : Nat → Int32) (lgf : Nat → Int32) (cnt : Int32) (call : Int32) (swf : Nat → Int32) (fnf : Nat → Int32) (fb : Nat → Int32) (fk : Nat → Int32) (fg : Nat → Int32) (fl : Nat → Int32) (p1 : Int32) (p2 : Int32) : Int32 → Int32 → Int32 → Int32 → Int32 → Int32 → Int32 → Int32 → (Nat → Int32) → (Nat → Int32) → Int32 → (Nat → Int32) → (Nat → Int32) → (Nat → Int32) → Nat → (Nat → Int32) → Nat := fun x8 x9 x10 x11 bcc' bac' bfc' blc' bf' cf' lgd' fb' fk' fg' qt ft => 12 - x11.toNatClampNeg
theorem pl_L_sets_9 (lgd : Int32) (ccc : Int32) (cac : Int32) (cfc : Int32) (clc : Int32) (cf : Nat → Int32) (bcc : Int32) (bac : Int32) (bfc : Int32) (blc : Int32) (bf : Nat → Int32) (lgf : Nat → Int32) (cnt : Int32) (call : Int32) (swf : Nat → Int32) (fnf : Nat → Int32) (fb : Nat → Int32) (fk : Nat → Int32) (fg : Nat → Int32) (fl : Nat → Int32) (p1 : Int32) (p2 : Int32) (hpre : PI lgd ccc cac cfc clc cf bcc bac bfc blc bf lgf fb fk fg fl ∧ cel fg p1 ∧ min3 p2 0 9 = true) : ∀ (x8 : Int32) (bcc' : Int32) (bac' : Int32) (bfc' : Int32) (blc' : Int32) (bf' : Nat → Int32) (cf' : Nat → Int32) (lgd' : Int32) (fb' : Nat → Int32) (fk' : Nat → Int32) (fg' : Nat → Int32) (qt : Nat) (ft : Nat → Int32), I_L_sets_9 lgd ccc cac cfc clc cf bcc bac bfc blc bf lgf cnt call swf fnf fb fk fg fl p1 p2 x8 bcc' bac' bfc' blc' bf' cf' lgd' fb' fk' fg' qt ft → vs_L_sets_9 lgd ccc cac cfc clc cf bcc bac bfc blc bf lgf cnt call swf fnf fb fk fg fl p1 p2 (fun (r : Int32) (u : Int32 × Int32 × Int32 × Int32 × (Nat → Int32) × (Nat → Int32) × Int32 × (Nat → Int32) × (Nat → Int32) × (Nat → Int32)) => r = 1 ∧ (PI u.2.2.2.2.2.2.1 ccc cac cfc clc u.2.2.2.2.2.1 u.1 u.2.1 u.2.2.1 u.2.2.2.1 u.2.2.2.2.1 lgf u.2.2.2.2.2.2.2.1 u.2.2.2.2.2.2.2.2.1 u.2.2.2.2.2.2.2.2.2 fl)) (fun (x89 : Int32) (bcc9 : Int32) (bac9 : Int32) (bfc9 : Int32) (blc9 : Int32) (bf9 : Nat → Int32) (cf9 : Nat → Int32) (lgd9 : Int32) (fb9 : Nat → Int32) (fk9 : Nat → Int32) (fg9 : Nat → Int32) (qt9 : Nat) (ft9 : Nat → Int32) => I_L_sets_9 lgd ccc cac cfc clc cf bcc bac bfc blc bf lgf cnt call swf fnf fb fk fg fl p1 p2 x89 bcc9 bac9 bfc9 blc9 bf9 cf9 lgd9 fb9 fk9 fg9 qt9 ft9 ∧ mu_L_sets_9 lgd ccc cac cfc clc cf bcc bac bfc blc bf lgf cnt call swf fnf fb fk fg fl p1 p2 x89 bcc9 bac9 bfc9 blc9 bf9 cf9 lgd9 fb9 fk9 fg9 qt9 ft9 < mu_L_sets_9 lgd ccc cac cfc clc cf bcc bac bfc blc bf lgf cnt call swf fnf fb fk fg fl p1 p2 x8 bcc' bac' bfc' blc' bf' cf' lgd' fb' fk' fg' qt ft) (I_L_sets_109 lgd ccc cac cfc clc cf bcc bac bfc blc bf lgf cnt call swf fnf fb fk fg fl p1 p2) x8 bcc' bac' bfc' blc' bf' cf' lgd' fb' fk' fg' qt ft := by
  rintro x8 bcc' bac' bfc' blc' bf' cf' lgd' fb' fk' fg' qt ft ⟨rfl, rfl, rfl, rfl, rfl, rfl, rfl, rfl, rfl, rfl, j, hj, rfl, rfl⟩
  obtain ⟨⟨r, c, N, n, cl, hRB, ⟨⟨rfl, rfl, rfl, rfl⟩, rfl, rfl, rfl, rfl⟩, hkk, hlg, hfg, hRL⟩, ⟨k, hk, rfl⟩, h9⟩ := hpre
  obtain ⟨v, hv, rfl, d2⟩ := num_09 h9
  obtain ⟨g, hF, hC, hb, hs, hsc, hcl⟩ := id hRB
  have hN := (gN g).2
  have hbN := bv_le hN hb
  have em := gmN g
  have hk0 := hk
  rw [em] at hk
  have hvp : vp_in (nI k) 12 := vp_in_nI (by omega) (by decide)
  unfold vs_L_sets_9
  rw [nI_clamp (n := k) (by omega), show (12 : Int32) = nI 12 from rfl]
  refine ⟨fun c0 => ?_, fun c0 => ?_⟩
  · have c0 := k_le (by omega) (by omega) c0
    obtain rfl : j = 12 := by omega
    have hD := thn_FB (d := fun _ => 0) hC hN hk hv hkk
    have hbt := thn_bv (d := fun _ => 0) hb hv hN hk hkk
    have hso : lso (tho fb fk (nI k) (nI v) (fun _ => 0) 12) fg = true ↔ SND (fg 0) (fg 1) (zwr cf (nI k) (nI v)) := (SND_mso g hD (bv_le hN hbt) (fun _ => 0)).symm
    have hX : zxu (fg 1) (zac (fg 0) (fg 1)) (zfc (fg 1) r) (zlc (fg 1) (zfc (fg 1) r)) cf (zac (fg 0) (fg 1)) (nI k) (nI v) = if zso (fg 1) (zac (fg 0) (fg 1)) (zfc (fg 1) r) (zlc (fg 1) (zfc (fg 1) r)) (zwr cf (nI k) (nI v)) 9 = true then 0 else 3 := by
      unfold zxu
      rw [if_neg (fun z => z (zxc_k g hk)), if_neg d2]
    have hT : zxu (fg 1) (zac (fg 0) (fg 1)) (zfc (fg 1) r) (zlc (fg 1) (zfc (fg 1) r)) cf (zac (fg 0) (fg 1)) (nI k) (nI v) = 0 ∨ zxu (fg 1) (zac (fg 0) (fg 1)) (zfc (fg 1) r) (zlc (fg 1) (zfc (fg 1) r)) cf (zac (fg 0) (fg 1)) (nI k) (nI v) = 3 := by
      rw [hX]; split
      · exact Or.inl rfl
      · exact Or.inr rfl
    have hzo := zso_iff g (zwr_FB hC hN hk hv)
    have hold : zni cf (nI k) 9 = if fk k = 1 then fb k else 0 := by
      rw [zat g hC (clb_bv hbN) hk, hkk k (by omega)]
      unfold clb
      cases bt cl k <;> rfl
    refine ⟨⟨r, c, N, g, hbt⟩, ?_⟩
    rintro y12 rfl
    have main : ∀ y20 : Int32, y20 = (if fk k = 1 then fb k else 0) → ∀ (r_22 : Int32) (cf_22 : Nat → Int32) (bcc_22 : Int32) (bac_22 : Int32) (bfc_22 : Int32) (blc_22 : Int32) (bf_22 : Nat → Int32) (lgd_22 : Int32), ((zxu (fg 1) (zac (fg 0) (fg 1)) (zfc (fg 1) r) (zlc (fg 1) (zfc (fg 1) r)) cf (zac (fg 0) (fg 1)) (nI k) (nI v) = 0 → r_22 = zni cf (nI k) 9 ∧ cf_22 = zwr cf (nI k) (nI v) ∧ bcc_22 = fg 1 ∧ bac_22 = zac (fg 0) (fg 1) ∧ bfc_22 = zfc (fg 1) r ∧ blc_22 = zlc (fg 1) (zfc (fg 1) r) ∧ bf_22 = zcp bf (zwr cf (nI k) (nI v)) ∧ lgd_22 = 0) ∧ (¬ zxu (fg 1) (zac (fg 0) (fg 1)) (zfc (fg 1) r) (zlc (fg 1) (zfc (fg 1) r)) cf (zac (fg 0) (fg 1)) (nI k) (nI v) = 0 → r_22 = -8 ∧ cf_22 = zcu (fg 1) (zac (fg 0) (fg 1)) (zfc (fg 1) r) (zlc (fg 1) (zfc (fg 1) r)) cf (zac (fg 0) (fg 1)) (nI k) (nI v) ∧ bcc_22 = fg 1 ∧ bac_22 = zac (fg 0) (fg 1) ∧ bfc_22 = zfc (fg 1) r ∧ blc_22 = zlc (fg 1) (zfc (fg 1) r) ∧ bf_22 = bf ∧ lgd_22 = lgd)) →
        (b2i (lso (tho fb fk (nI k) (nI v) (fun _ => 0) 12) fg) = 0 → r_22 = -8 ∧ PI lgd_22 (fg 1) (zac (fg 0) (fg 1)) (zfc (fg 1) r) (zlc (fg 1) (zfc (fg 1) r)) cf_22 bcc_22 bac_22 bfc_22 blc_22 bf_22 lgf fb fk fg fl) ∧ (¬ b2i (lso (tho fb fk (nI k) (nI v) (fun _ => 0) 12) fg) = 0 → ∀ x8, I_L_sets_109 lgd (fg 1) (zac (fg 0) (fg 1)) (zfc (fg 1) r) (zlc (fg 1) (zfc (fg 1) r)) cf (fg 1) (zac (fg 0) (fg 1)) (zfc (fg 1) r) (zlc (fg 1) (zfc (fg 1) r)) bf lgf cnt call swf fnf fb fk fg fl (nI k) (nI v) x8 y20 r_22 0 bcc_22 bac_22 bfc_22 blc_22 bf_22 cf_22 lgd_22 fb fk fg qt (tho fb fk (nI k) (nI v) (fun _ => 0) 12)) := by
      intro y20 e20 a0 a1 a2 a3 a4 a5 a6 a7 ⟨hA, hB⟩
      refine ⟨fun q => ?_, fun q x8 => ?_⟩
      · rw [b2i_eq0] at q
        have hnS : ¬ SND (fg 0) (fg 1) (zwr cf (nI k) (nI v)) := fun z => by rw [hso.mpr z] at q; cases q
        have hT0 : ¬ zxu (fg 1) (zac (fg 0) (fg 1)) (zfc (fg 1) r) (zlc (fg 1) (zfc (fg 1) r)) cf (zac (fg 0) (fg 1)) (nI k) (nI v) = 0 := by
          rw [hX, if_neg (fun z => hnS (hzo.mp z))]; decide
        obtain ⟨b0, b1, b2, b3, b4, b5, b6, b7⟩ := hB hT0
        refine ⟨b0, r, c, N, n, cl, ?_, ⟨⟨rfl, rfl, rfl, rfl⟩, b2, b3, b4, b5⟩, hkk, b7.trans hlg, hfg, by rw [b6]; exact hRL⟩
        rcases clue_or (fun _ => 0) hRB (nI k) (nI v) with ⟨z, -⟩ | ⟨q1, -, -, -, -, z⟩
        · exact absurd z hT0
        · rw [b1, b6]; exact z
      · rw [b2i_ne0] at q
        have hS := hso.mp q
        have hT0 : zxu (fg 1) (zac (fg 0) (fg 1)) (zfc (fg 1) r) (zlc (fg 1) (zfc (fg 1) r)) cf (zac (fg 0) (fg 1)) (nI k) (nI v) = 0 := by
          rw [hX, if_pos (hzo.mpr hS)]
        obtain ⟨b0, b1, b2, b3, b4, b5, b6, b7⟩ := hA hT0
        exact ⟨b0.trans (hold.trans e20.symm), b2, b3, b4, b5, b6, b1, b7, rfl, rfl, rfl, hS, 0, Nat.zero_le _, rfl, (tho_0 _ _ _ _ _).symm⟩
    refine ⟨hvp, fun c1 => ⟨hvp, ?_⟩, fun c1 => ⟨hT, ?_⟩⟩
    · rintro y20 rfl
      refine ⟨hT, fun a0 a1 a2 a3 a4 a5 a6 a7 hr => ?_⟩
      obtain ⟨m1, m2⟩ := main (fb k) (by rw [if_pos c1]) a0 a1 a2 a3 a4 a5 a6 a7 hr
      exact ⟨fun q => ⟨fun _ => ⟨rfl, (m1 q).2⟩, fun z => absurd (m1 q).1 z⟩, fun q => m2 q _⟩
    · intro a0 a1 a2 a3 a4 a5 a6 a7 hr
      obtain ⟨m1, m2⟩ := main 0 (by rw [if_neg c1]) a0 a1 a2 a3 a4 a5 a6 a7 hr
      exact ⟨fun q => ⟨fun _ => ⟨rfl, (m1 q).2⟩, fun z => absurd (m1 q).1 z⟩, fun q => m2 q _⟩
  · have hj12 := k_nle (by omega) (by omega) c0
    have hvj : vp_in (nI j) 12 := vp_in_nI hj12 (by decide)
    rw [nI_clamp (n := j) (by omega)]
    have hst : ∀ x, x = thn fb fk (nI k) (nI v) j → upd (tho fb fk (nI k) (nI v) (fun _ => 0) j) j x = tho fb fk (nI k) (nI v) (fun _ => 0) (j + 1) := fun x ex => by rw [ex]; exact tho_step _ _ _ _ _ _
    refine ⟨fun c1 => ⟨hvj, ?_⟩, fun c1 => ⟨hvj, fun c2 => ⟨hvj, hvj, ?_⟩, fun c2 => ⟨hvj, ?_⟩⟩⟩ <;> rintro y rfl <;> refine ⟨⟨rfl, rfl, rfl, rfl, rfl, rfl, rfl, rfl, rfl, rfl, j + 1, by omega, nI_1 j, hst _ ?_⟩, hmu 12 hj12 (by decide)⟩ <;> unfold thn
    · rw [if_pos c1]
    · rw [if_neg c1, if_pos c2]
    · rw [if_neg c1, if_neg c2]
theorem pl_L_sets_109 (lgd : Int32) (ccc : Int32) (cac : Int32) (cfc : Int32) (clc : Int32) (cf : Nat → Int32) (bcc : Int32) (bac : Int32) (bfc : Int32) (blc : Int32) (bf : Nat → Int32) (lgf : Nat → Int32) (cnt : Int32) (call : Int32) (swf : Nat → Int32) (fnf : Nat → Int32) (fb : Nat → Int32) (fk : Nat → Int32) (fg : Nat → Int32) (fl : Nat → Int32) (p1 : Int32) (p2 : Int32) (hpre : PI lgd ccc cac cfc clc cf bcc bac bfc blc bf lgf fb fk fg fl ∧ cel fg p1 ∧ min3 p2 0 9 = true) : ∀ (x8 : Int32) (x9 : Int32) (x10 : Int32) (x11 : Int32) (bcc' : Int32) (bac' : Int32) (bfc' : Int32) (blc' : Int32) (bf' : Nat → Int32) (cf' : Nat → Int32) (lgd' : Int32) (fb' : Nat → Int32) (fk' : Nat → Int32) (fg' : Nat → Int32) (qt : Nat) (ft : Nat → Int32), I_L_sets_109 lgd ccc cac cfc clc cf bcc bac bfc blc bf lgf cnt call swf fnf fb fk fg fl p1 p2 x8 x9 x10 x11 bcc' bac' bfc' blc' bf' cf' lgd' fb' fk' fg' qt ft → vs_L_sets_109 lgd ccc cac cfc clc cf bcc bac bfc blc bf lgf cnt call swf fnf fb fk fg fl p1 p2 (fun (r : Int32) (u : Int32 × Int32 × Int32 × Int32 × (Nat → Int32) × (Nat → Int32) × Int32 × (Nat → Int32) × (Nat → Int32) × (Nat → Int32)) => r = 1 ∧ (PI u.2.2.2.2.2.2.1 ccc cac cfc clc u.2.2.2.2.2.1 u.1 u.2.1 u.2.2.1 u.2.2.2.1 u.2.2.2.2.1 lgf u.2.2.2.2.2.2.2.1 u.2.2.2.2.2.2.2.2.1 u.2.2.2.2.2.2.2.2.2 fl)) (I_L_sets_9 lgd ccc cac cfc clc cf bcc bac bfc blc bf lgf cnt call swf fnf fb fk fg fl p1 p2) (fun (x89 : Int32) (x99 : Int32) (x109 : Int32) (x119 : Int32) (bcc9 : Int32) (bac9 : Int32) (bfc9 : Int32) (blc9 : Int32) (bf9 : Nat → Int32) (cf9 : Nat → Int32) (lgd9 : Int32) (fb9 : Nat → Int32) (fk9 : Nat → Int32) (fg9 : Nat → Int32) (qt9 : Nat) (ft9 : Nat → Int32) => I_L_sets_109 lgd ccc cac cfc clc cf bcc bac bfc blc bf lgf cnt call swf fnf fb fk fg fl p1 p2 x89 x99 x109 x119 bcc9 bac9 bfc9 blc9 bf9 cf9 lgd9 fb9 fk9 fg9 qt9 ft9 ∧ mu_L_sets_109 lgd ccc cac cfc clc cf bcc bac bfc blc bf lgf cnt call swf fnf fb fk fg fl p1 p2 x89 x99 x109 x119 bcc9 bac9 bfc9 blc9 bf9 cf9 lgd9 fb9 fk9 fg9 qt9 ft9 < mu_L_sets_109 lgd ccc cac cfc clc cf bcc bac bfc blc bf lgf cnt call swf fnf fb fk fg fl p1 p2 x8 x9 x10 x11 bcc' bac' bfc' blc' bf' cf' lgd' fb' fk' fg' qt ft) x8 x9 x10 x11 bcc' bac' bfc' blc' bf' cf' lgd' fb' fk' fg' qt ft := by
  rintro x8 x9 x10 x11 bcc' bac' bfc' blc' bf' cf' lgd' fb' fk' fg' qt ft ⟨rfl, rfl, rfl, rfl, rfl, rfl, rfl, rfl, rfl, rfl, rfl, hS, j, hj, rfl, rfl⟩
  obtain ⟨⟨r, c, N, n, cl, hRB, ⟨⟨rfl, rfl, rfl, rfl⟩, rfl, rfl, rfl, rfl⟩, hkk, hlg, hfg, hRL⟩, ⟨k, hk, rfl⟩, h9⟩ := hpre
  obtain ⟨v, hv, rfl, d2⟩ := num_09 h9
  obtain ⟨g, hF, hC, hb, hs, hsc, hcl⟩ := id hRB
  have hN := (gN g).2
  have em := gmN g
  rw [em] at hk
  have hvp : vp_in (nI k) 12 := vp_in_nI (by omega) (by decide)
  unfold vs_L_sets_109
  rw [nI_clamp (n := k) (by omega), show (12 : Int32) = nI 12 from rfl]
  refine ⟨fun c0 => ?_, fun c0 => ?_⟩
  · have c0 := k_le (by omega) (by omega) c0
    obtain rfl : j = 12 := by omega
    obtain ⟨z1, z2, z3⟩ := sets_end g hC hb hcl hkk hk hv hS bf lgf fl fb
    refine ⟨fun c1 => ⟨hvp, fun _ => ⟨rfl, ?_⟩, fun z => absurd rfl z⟩, fun c1 => ⟨hvp, fun _ => ⟨rfl, ?_⟩, fun z => absurd rfl z⟩⟩
    · have h0 : v = 0 := by
        rw [← nI_0] at c1
        have := (nI_leI (by omega) (by decide)).mp c1
        omega
      refine ⟨r, c, N, 0, mclc cl (nI k) (nI v), z1, ⟨⟨rfl, rfl, rfl, rfl⟩, rfl, rfl, rfl, rfl⟩, fun i hi => ?_, rfl, rfl, z2⟩
      rw [← z3 i hi, if_pos h0]
    · have h0 : ¬ v = 0 := fun z => c1 (by rw [z]; decide)
      refine ⟨r, c, N, 0, mclc cl (nI k) (nI v), z1, ⟨⟨rfl, rfl, rfl, rfl⟩, rfl, rfl, rfl, rfl⟩, fun i hi => ?_, rfl, rfl, z2⟩
      rw [← z3 i hi, if_neg h0]
  · have hj12 := k_nle (by omega) (by omega) c0
    have hvj : vp_in (nI j) 12 := vp_in_nI hj12 (by decide)
    rw [nI_clamp (n := j) (by omega)]
    refine ⟨hvj, hvj, ?_⟩
    rintro y rfl
    refine ⟨⟨rfl, rfl, rfl, rfl, rfl, rfl, rfl, rfl, rfl, rfl, rfl, hS, j + 1, by omega, nI_1 j, ?_⟩, hmu 12 hj12 (by decide)⟩
    have e : tho fb fk (nI k) (nI v) (fun _ => 0) 12 j = thn fb fk (nI k) (nI v) j := by unfold tho; rw [if_pos hj12]
    rw [e]
    exact tho_step _ _ _ _ _ _
theorem pe_L_sets (lgd : Int32) (ccc : Int32) (cac : Int32) (cfc : Int32) (clc : Int32) (cf : Nat → Int32) (bcc : Int32) (bac : Int32) (bfc : Int32) (blc : Int32) (bf : Nat → Int32) (lgf : Nat → Int32) (cnt : Int32) (call : Int32) (swf : Nat → Int32) (fnf : Nat → Int32) (fb : Nat → Int32) (fk : Nat → Int32) (fg : Nat → Int32) (fl : Nat → Int32) (p1 : Int32) (p2 : Int32) (hpre : PI lgd ccc cac cfc clc cf bcc bac bfc blc bf lgf fb fk fg fl ∧ cel fg p1 ∧ min3 p2 0 9 = true) : ve_L_sets lgd ccc cac cfc clc cf bcc bac bfc blc bf lgf cnt call swf fnf fb fk fg fl p1 p2 (fun (r : Int32) (u : Int32 × Int32 × Int32 × Int32 × (Nat → Int32) × (Nat → Int32) × Int32 × (Nat → Int32) × (Nat → Int32) × (Nat → Int32)) => r = 1 ∧ (PI u.2.2.2.2.2.2.1 ccc cac cfc clc u.2.2.2.2.2.1 u.1 u.2.1 u.2.2.1 u.2.2.2.1 u.2.2.2.2.1 lgf u.2.2.2.2.2.2.2.1 u.2.2.2.2.2.2.2.2.1 u.2.2.2.2.2.2.2.2.2 fl)) (I_L_sets_9 lgd ccc cac cfc clc cf bcc bac bfc blc bf lgf cnt call swf fnf fb fk fg fl p1 p2) (I_L_sets_109 lgd ccc cac cfc clc cf bcc bac bfc blc bf lgf cnt call swf fnf fb fk fg fl p1 p2) := fun qn => ⟨rfl, rfl, rfl, rfl, rfl, rfl, rfl, rfl, rfl, rfl, 0, Nat.zero_le _, rfl, (tho_0 _ _ _ _ _).symm⟩
