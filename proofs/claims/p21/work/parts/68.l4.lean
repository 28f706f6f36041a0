def vs_L_makes_13 (lgd : Int32) (ccc : Int32) (cac : Int32) (cfc : Int32) (clc : Int32) (cf : Nat → Int32) (bcc : Int32) (bac : Int32) (bfc : Int32) (blc : Int32) (bf : Nat → Int32) (lgf : Nat → Int32) (cnt : Int32) (call : Int32) (swf : Nat → Int32) (fnf : Nat → Int32) (fb : Nat → Int32) (fk : Nat → Int32) (fg : Nat → Int32) (p1 : Int32) (P : Int32 → ((Nat → Int32) × Int32 × Int32 × Int32 × Int32 × (Nat → Int32) × Int32 × (Nat → Int32) × (Nat → Int32) × (Nat → Int32) × (Nat → Int32)) → Prop) (J13 : Int32 → Int32 → Int32 → (Nat → Int32) → Int32 → Int32 → Int32 → Int32 → (Nat → Int32) → Int32 → (Nat → Int32) → (Nat → Int32) → (Nat → Int32) → (Nat → Int32) → Prop) (J120 : Int32 → Int32 → Int32 → Int32 → (Nat → Int32) → Int32 → Int32 → Int32 → Int32 → (Nat → Int32) → Int32 → (Nat → Int32) → (Nat → Int32) → (Nat → Int32) → (Nat → Int32) → Prop) (x5 : Int32) (x6 : Int32) (x7 : Int32) (cf' : Nat → Int32) (bcc' : Int32) (bac' : Int32) (bfc' : Int32) (blc' : Int32) (bf' : Nat → Int32) (lgd' : Int32) (fnf' : Nat → Int32) (fb' : Nat → Int32) (fk' : Nat → Int32) (fg' : Nat → Int32) : Prop := (12 ≤ x7 → (x5 = x6 → (zval bf' ∧ (zN bac' ≤ 12 ∧ bc bac' = nI (zN bac')) ∧ zx5 5 = 0) ∧ ((zcs bcc' bac' bfc' blc' bf' 0 5) = 1 → ((zN cac ≤ 12 ∧ bc cac = nI (zN cac)) ∧ ¬ p1 < 0) ∧ ((bc cac - bc (zmkF ccc cac cfc clc cf' fnf' p1 (zN cac) 0)) = x5 → (J120 x5 x6 1 0 (zmkF ccc cac cfc clc cf' fnf' p1 (zN cac)) ccc cac cfc clc (zcp bf' (zmkF ccc cac cfc clc cf' fnf' p1 (zN cac))) 0 (zsbn cac fnf' (p1 : Int32).toInt64) fb' fk' (upd fg' 2 0))) ∧ (¬ (bc cac - bc (zmkF ccc cac cfc clc cf' fnf' p1 (zN cac) 0)) = x5 → (J120 x5 x6 0 0 (zmkF ccc cac cfc clc cf' fnf' p1 (zN cac)) ccc cac cfc clc (zcp bf' (zmkF ccc cac cfc clc cf' fnf' p1 (zN cac))) 0 (zsbn cac fnf' (p1 : Int32).toInt64) fb' fk' (upd fg' 2 0)))) ∧ (¬ (zcs bcc' bac' bfc' blc' bf' 0 5) = 1 → (J120 x5 x6 0 0 cf' bcc' bac' bfc' blc' bf' lgd' fnf' fb' fk' (upd fg' 2 0)))) ∧ (¬ x5 = x6 → (J120 x5 x6 0 0 cf' bcc' bac' bfc' blc' bf' lgd' fnf' fb' fk' (upd fg' 2 0)))) ∧ (¬ 12 ≤ x7 → (((fg' 0) * (fg' 1)) ≤ x7 → vp_in x7 12 ∧ vp_in x7 12 ∧ (((upd fb' x7.toNatClampNeg 0) x7.toNatClampNeg) ≤ 0 → vp_in x7 12 ∧ vp_in x7 12 ∧ ∀ y_28 : Int32, y_28 = x6 + ((upd fk' x7.toNatClampNeg 0) x7.toNatClampNeg) → ∀ y_29 : Int32, y_29 = x7 + 1 → (J13 x5 y_28 y_29 cf' bcc' bac' bfc' blc' bf' lgd' fnf' (upd fb' x7.toNatClampNeg 0) (upd fk' x7.toNatClampNeg 0) fg')) ∧ (¬ ((upd fb' x7.toNatClampNeg 0) x7.toNatClampNeg) ≤ 0 → vp_in x7 12 ∧ vp_in x7 12 ∧ ∀ y_32 : Int32, y_32 = x6 + ((upd fk' x7.toNatClampNeg 1) x7.toNatClampNeg) → ∀ y_33 : Int32, y_33 = x7 + 1 → (J13 x5 y_32 y_33 cf' bcc' bac' bfc' blc' bf' lgd' fnf' (upd fb' x7.toNatClampNeg 0) (upd fk' x7.toNatClampNeg 1) fg'))) ∧ (¬ ((fg' 0) * (fg' 1)) ≤ x7 → (zxc bac' x7 = 0) ∧ vp_in x7 12 ∧ vp_in x7 12 ∧ (((upd fb' x7.toNatClampNeg (zni bf' x7 9)) x7.toNatClampNeg) ≤ 0 → vp_in x7 12 ∧ vp_in x7 12 ∧ ∀ y_40 : Int32, y_40 = x6 + ((upd fk' x7.toNatClampNeg 0) x7.toNatClampNeg) → ∀ y_41 : Int32, y_41 = x7 + 1 → (J13 x5 y_40 y_41 cf' bcc' bac' bfc' blc' bf' lgd' fnf' (upd fb' x7.toNatClampNeg (zni bf' x7 9)) (upd fk' x7.toNatClampNeg 0) fg')) ∧ (¬ ((upd fb' x7.toNatClampNeg (zni bf' x7 9)) x7.toNatClampNeg) ≤ 0 → vp_in x7 12 ∧ vp_in x7 12 ∧ ∀ y_44 : Int32, y_44 = x6 + ((upd fk' x7.toNatClampNeg 1) x7.toNatClampNeg) → ∀ y_45 : Int32, y_45 = x7 + 1 → (J13 x5 y_44 y_45 cf' bcc' bac' bfc' blc' bf' lgd' fnf' (upd fb' x7.toNatClampNeg (zni bf' x7 9)) (upd fk' x7.toNatClampNeg 1) fg'))))
def vs_L_makes_120 (lgd : Int32) (ccc : Int32) (cac : Int32) (cfc : Int32) (clc : Int32) (cf : Nat → Int32) (bcc : Int32) (bac : Int32) (bfc : Int32) (blc : Int32) (bf : Nat → Int32) (lgf : Nat → Int32) (cnt : Int32) (call : Int32) (swf : Nat → Int32) (fnf : Nat → Int32) (fb : Nat → Int32) (fk : Nat → Int32) (fg : Nat → Int32) (p1 : Int32) (P : Int32 → ((Nat → Int32) × Int32 × Int32 × Int32 × Int32 × (Nat → Int32) × Int32 × (Nat → Int32) × (Nat → Int32) × (Nat → Int32) × (Nat → Int32)) → Prop) (J13 : Int32 → Int32 → Int32 → (Nat → Int32) → Int32 → Int32 → Int32 → Int32 → (Nat → Int32) → Int32 → (Nat → Int32) → (Nat → Int32) → (Nat → Int32) → (Nat → Int32) → Prop) (J120 : Int32 → Int32 → Int32 → Int32 → (Nat → Int32) → Int32 → Int32 → Int32 → Int32 → (Nat → Int32) → Int32 → (Nat → Int32) → (Nat → Int32) → (Nat → Int32) → (Nat → Int32) → Prop) (x5 : Int32) (x6 : Int32) (x7 : Int32) (x8 : Int32) (cf' : Nat → Int32) (bcc' : Int32) (bac' : Int32) (bfc' : Int32) (blc' : Int32) (bf' : Nat → Int32) (lgd' : Int32) (fnf' : Nat → Int32) (fb' : Nat → Int32) (fk' : Nat → Int32) (fg' : Nat → Int32) : Prop := (((fg' 0) * (fg' 1)) ≤ x8 → (narrow .boolean (.int x7) = .int x7 ∧ P x7 (cf', bcc', bac', bfc', blc', bf', lgd', fnf', fb', fk', fg'))) ∧ (¬ ((fg' 0) * (fg' 1)) ≤ x8 → (x7 = 0 → (narrow .boolean (.int x7) = .int x7 ∧ P x7 (cf', bcc', bac', bfc', blc', bf', lgd', fnf', fb', fk', fg'))) ∧ (¬ x7 = 0 → (zxc bac' x8 = 0) ∧ vp_in x8 12 ∧ ((zni bf' x8 9) = (fb' x8.toNatClampNeg) → (zxc bac' x8 = 0) ∧ vp_in x8 12 ∧ ((fb' x8.toNatClampNeg) ≤ 0 → ((b2i (!decide (zni cf' x8 9 = 0))) = 0 → ∀ y_12 : Int32, y_12 = x8 + 1 → (J120 x5 x6 1 y_12 cf' bcc' bac' bfc' blc' bf' lgd' fnf' fb' fk' fg')) ∧ (¬ (b2i (!decide (zni cf' x8 9 = 0))) = 0 → ∀ y_11 : Int32, y_11 = x8 + 1 → (J120 x5 x6 0 y_11 cf' bcc' bac' bfc' blc' bf' lgd' fnf' fb' fk' fg'))) ∧ (¬ (fb' x8.toNatClampNeg) ≤ 0 → ((b2i (!decide (zni cf' x8 9 = 0))) = 1 → ∀ y_15 : Int32, y_15 = x8 + 1 → (J120 x5 x6 1 y_15 cf' bcc' bac' bfc' blc' bf' lgd' fnf' fb' fk' fg')) ∧ (¬ (b2i (!decide (zni cf' x8 9 = 0))) = 1 → ∀ y_14 : Int32, y_14 = x8 + 1 → (J120 x5 x6 0 y_14 cf' bcc' bac' bfc' blc' bf' lgd' fnf' fb' fk' fg')))) ∧ (¬ (zni bf' x8 9) = (fb' x8.toNatClampNeg) → ∀ y_6 : Int32, y_6 = x8 + 1 → (J120 x5 x6 0 y_6 cf' bcc' bac' bfc' blc' bf' lgd' fnf' fb' fk' fg'))))
def ve_L_makes (lgd : Int32) (ccc : Int32) (cac : Int32) (cfc : Int32) (clc : Int32) (cf : Nat → Int32) (bcc : Int32) (bac : Int32) (bfc : Int32) (blc : Int32) (bf : Nat → Int32) (lgf : Nat → Int32) (cnt : Int32) (call : Int32) (swf : Nat → Int32) (fnf : Nat → Int32) (fb : Nat → Int32) (fk : Nat → Int32) (fg : Nat → Int32) (p1 : Int32) (P : Int32 → ((Nat → Int32) × Int32 × Int32 × Int32 × Int32 × (Nat → Int32) × Int32 × (Nat → Int32) × (Nat → Int32) × (Nat → Int32) × (Nat → Int32)) → Prop) (J13 : Int32 → Int32 → Int32 → (Nat → Int32) → Int32 → Int32 → Int32 → Int32 → (Nat → Int32) → Int32 → (Nat → Int32) → (Nat → Int32) → (Nat → Int32) → (Nat → Int32) → Prop) (J120 : Int32 → Int32 → Int32 → Int32 → (Nat → Int32) → Int32 → Int32 → Int32 → Int32 → (Nat → Int32) → Int32 → (Nat → Int32) → (Nat → Int32) → (Nat → Int32) → (Nat → Int32) → Prop) : Prop := ((zN cac ≤ 12 ∧ bc cac = nI (zN cac)) ∧ ¬ p1 < 0) ∧ ∀ y_47 : Int32, y_47 = bc cac - bc (zmkF ccc cac cfc clc cf fnf p1 (zN cac) 0) → (J13 y_47 0 0 (zmkF ccc cac cfc clc cf fnf p1 (zN cac)) ccc cac cfc clc (zcp bf (zmkF ccc cac cfc clc cf fnf p1 (zN cac))) 0 (zsbn cac fnf (p1 : Int32).toInt64) fb fk fg)
def sel (a d : Nat → Int32) (j : Nat) : Nat → Int32 := fun i => if i < j then a i else d i
theorem sel_step (a d : Nat → Int32) (j : Nat) : upd (sel a d j) j (a j) = sel a d (j + 1) := by
  funext i
  unfold upd sel
  by_cases e : i = j
  · rw [if_pos e, if_pos (by omega), e]
  · rw [if_neg e]
    by_cases h : i < j
    · rw [if_pos h, if_pos (by omega)]
    · rw [if_neg h, if_neg (by omega)]
theorem sel_0 (a d : Nat → Int32) : sel a d 0 = d := by
  funext i
  unfold sel
  rw [if_neg (Nat.not_lt_zero _)]
theorem sel_at {a d : Nat → Int32} {i j : Nat} (h : i < j) : sel a d j i = a i := by unfold sel; rw [if_pos h]
/-- the board that a seed makes, and its clues -/
def QQ (rw co p : Int32) : (Nat → Int32) × Int32 := mmk rw co (fun _ => 0) (fun _ => 0) p
def WW (rw co p : Int32) : Nat → Int32 := fun i => if i < mN rw co then (QQ rw co p).1 i else 0
def KW (rw co p : Int32) : Nat → Int32 := fun i => if WW rw co p i = 0 then 0 else 1
section
variable {rw co : Int32} {r c N m : Nat}
theorem mz12_0 : mz12 (fun _ => 0) = fun _ => 0 := by
  funext i
  unfold mz12
  split <;> rfl
theorem QQ_MK (g : gok rw co r c N) (hm : m < 2 ^ 31) (cf fnf : Nat → Int32) : MK rw co N (zmkF co (zac rw co) (zfc co r) (zlc co (zfc co r)) cf fnf (nI m) N) (QQ rw co (nI m)) := by
  have := MK_all g (cf := cf) (fnf := fnf) (bd := fun _ => 0) (gf := fun _ => 0) hm N (Nat.le_refl _)
  unfold QQ mmk
  rw [gmN g] at this ⊢
  exact this
theorem msR_two {L : List (Nat → Int32)} (h : msR 2 L = 1) : L.length = 1 := by
  unfold msR at h
  split at h
  · next hl =>
    have e2 : (2 : Int32).toNatClampNeg = 2 := by decide
    rw [e2] at hl
    exact nI_inj (by omega) (by decide) (h.trans (show (1 : Int32) = nI 1 from rfl))
  · exact absurd h (by decide)
theorem QQ_one (g : gok rw co r c N) (hm : m < 2 ^ 31) : (mall0 rw co (QQ rw co (nI m)).1 (fun _ => 0)).length = 1 := by
  have : ∀ k, (mall0 rw co (mtks rw co (mz12 (fun _ => 0)) (mdst (nI m).toInt64 (mN rw co)) (mmks rw co (fun _ => 0) (fun _ => 0) (nI m), mall rw co) k).1 (fun _ => 0)).length = 1 := by
    intro k
    induction k with
    | zero =>
      obtain ⟨h3, -⟩ := mmks_ok g (bd := fun _ => 0) (gf := fun _ => 0) hm
      show (mall0 rw co (mmks rw co (fun _ => 0) (fun _ => 0) (nI m)) (fun _ => 0)).length = 1
      rw [mall0_full g h3]; rfl
    | succ k ih =>
      rw [mtks]
      unfold mtk
      split
      · next hc =>
        have := hc.2
        rw [mz12_0] at this ⊢
        exact msR_two this
      · exact ih
  exact this (mN rw co)
theorem WW_N (g : gok rw co r c N) {i : Nat} (hi : i < N) : WW rw co (nI m) i = (QQ rw co (nI m)).1 i := by
  unfold WW
  rw [gmN g, if_pos hi]
theorem WW_bv (g : gok rw co r c N) (hm : m < 2 ^ 31) : bv 12 (WW rw co (nI m)) := by
  intro i hi
  obtain ⟨-, hb, -⟩ := QQ_MK g hm (fun _ => 0) (fun _ => 0)
  unfold WW
  rw [gmN g]
  split
  · next h => exact hb i h
  · exact ⟨0, by decide, nI_0.symm⟩
theorem QQ_bt (g : gok rw co r c N) (hm : m < 2 ^ 31) {i : Nat} : bt (QQ rw co (nI m)).2 i = true ↔ i < N ∧ ¬ WW rw co (nI m) i = 0 := by
  obtain ⟨-, -, -, h⟩ := QQ_MK g hm (fun _ => 0) (fun _ => 0)
  by_cases h32 : i < 32
  · rw [h i h32, decide_eq_true_eq]
    constructor
    · rintro ⟨a, b⟩; exact ⟨a, by rw [WW_N g a]; exact b⟩
    · rintro ⟨a, b⟩; exact ⟨a, by rw [WW_N g a] at b; exact b⟩
  · rw [bt_hi _ (by omega)]
    have := (gN g).2
    exact ⟨fun z => absurd z (by decide), fun z => by omega⟩
theorem KW_bt (g : gok rw co r c N) (hm : m < 2 ^ 31) (i : Nat) : KW rw co (nI m) i = if bt (QQ rw co (nI m)).2 i then 1 else 0 := by
  unfold KW
  cases hb : bt (QQ rw co (nI m)).2 i with
  | true =>
    have := (QQ_bt g hm).mp hb
    rw [if_neg this.2]; rfl
  | false =>
    rw [if_pos]
    · rfl
    · apply Classical.byContradiction
      intro hz
      have hiN : i < N := by
        apply Classical.byContradiction
        intro hn
        apply hz
        unfold WW
        rw [gmN g, if_neg hn]
      rw [(QQ_bt g hm).mpr ⟨hiN, hz⟩] at hb
      cases hb
theorem QQ_sm (g : gok rw co r c N) (hm : m < 2 ^ 31) : sm N (QQ rw co (nI m)).2 := by
  obtain ⟨-, -, -, h⟩ := QQ_MK g hm (fun _ => 0) (fun _ => 0)
  intro i h1 h2
  rw [h i h2, decide_eq_false (by omega)]
theorem mcn_step (g : gok rw co r c N) (hm : m < 2 ^ 31) {j : Nat} (hj : j < 12) : mcn (QQ rw co (nI m)).2 j + KW rw co (nI m) j = mcn (QQ rw co (nI m)).2 (j + 1) := by
  rw [mcn, bit_k (gN g).2 (QQ_sm g hm) (by omega), KW_bt g hm]
theorem made_told (g : gok rw co r c N) (hm : m < 2 ^ 31) (cf fnf : Nat → Int32) : bc (zac rw co) - bc (zmkF co (zac rw co) (zfc co r) (zlc co (zfc co r)) cf fnf (nI m) N 0) = mcn (QQ rw co (nI m)).2 12 := by
  have M := QQ_MK g hm cf fnf
  obtain ⟨m1, m2, m3, m4⟩ := id M
  have hN := (gN g).2
  have hsm := QQ_sm g hm
  have hc : ∀ i, bt (QQ rw co (nI m)).2 i = true ↔ i < N ∧ ¬ (QQ rw co (nI m)).1 i = 0 := by
    intro i
    rw [QQ_bt g hm]
    constructor
    · rintro ⟨a, b⟩; exact ⟨a, by rw [WW_N g a] at b; exact b⟩
    · rintro ⟨a, b⟩; exact ⟨a, by rw [WW_N g a]; exact b⟩
  have ht := cn_two g m1 hc
  rw [gbc g, bc_cn hN (FB_sm m1 (by decide)), mcn_cn hN hsm 12 (by decide), pk_subI (by omega)]
  congr 1
  omega
theorem made_RB (g : gok rw co r c N) (hm : m < 2 ^ 31) {F B d lgf fl : Nat → Int32} (M : MK rw co N F (QQ rw co (nI m))) : RB rw co r c N (zcp B F) F (sel (WW rw co (nI m)) d 12) (QQ rw co (nI m)).2 ∧ RL_ N (zcp B F) (sel (WW rw co (nI m)) d 12) (QQ rw co (nI m)).2 lgf fl 0 := by
  have hN := (gN g).2
  obtain ⟨m1, m2, m3, m4⟩ := id M
  have e : ∀ i, i < 12 → sel (WW rw co (nI m)) d 12 i = WW rw co (nI m) i := fun i hi => sel_at hi
  have F1 : FB N F (sel (WW rw co (nI m)) d 12) := FB_congr m1 (fun i hi => by rw [e i (by omega), WW_N g hi])
  have F2 := FB_zcp (f := B) F1
  have hb : bv 12 (sel (WW rw co (nI m)) d 12) := fun i hi => by rw [e i hi]; exact WW_bv g hm i hi
  have hc : ∀ i, bt (QQ rw co (nI m)).2 i = true ↔ i < N ∧ ¬ sel (WW rw co (nI m)) d 12 i = 0 := fun i => by
    rw [QQ_bt g hm]
    exact and_congr_right (fun hi => by rw [e i (by omega)])
  exact ⟨RB_new g F2 F1 hb (SND_congr g F1 F2 (bv_le hN hb) m3) hc, RL_new g F2 hc⟩
end
def I_L_makes_13 (lgd : Int32) (ccc : Int32) (cac : Int32) (cfc : Int32) (clc : Int32) (cf : Nat → Int32) (bcc : Int32) (bac : Int32) (bfc : Int32) (blc : Int32) (bf : Nat → Int32) (lgf : Nat → Int32) (cnt : Int32) (call : Int32) (swf : Nat → Int32) (fnf : Nat → Int32) (fb : Nat → Int32) (fk : Nat → Int32) (fg : Nat → Int32) (p1 : Int32) : Int32 → Int32 → Int32 → (Nat → Int32) → Int32 → Int32 → Int32 → Int32 → (Nat → Int32) → Int32 → (Nat → Int32) → (Nat → Int32) → (Nat → Int32) → (Nat → Int32) → Prop := fun x5 x6 x7 cf' bcc' bac' bfc' blc' bf' lgd' fnf' fb' fk' fg' => x5 = mcn (QQ (fg 0) (fg 1) p1).2 12 ∧ cf' = zmkF ccc cac cfc clc cf fnf p1 (zN cac) ∧ bcc' = ccc ∧ bac' = cac ∧ bfc' = cfc ∧ blc' = clc ∧ bf' = zcp bf (zmkF ccc cac cfc clc cf fnf p1 (zN cac)) ∧ lgd' = 0 ∧ fg = fg' ∧ ∃ j : Nat, j ≤ 12 ∧ x7 = nI j ∧ x6 = mcn (QQ (fg 0) (fg 1) p1).2 j ∧ fb' = sel (WW (fg 0) (fg 1) p1) fb j ∧ fk' = sel (KW (fg 0) (fg 1) p1) fk j
def mu_L_makes_13 (lgd : Int32) (ccc : Int32) (cac : Int32) (cfc : Int32) (clc : Int32) (cf : Nat → Int32) (bcc : Int32) (bac : Int32) (bfc : Int32) (blc : Int32) (bf : Nat → Int32) (lgf : Nat → Int32) (cnt : Int32) (call : Int32) (swf : Nat → Int32) (fnf : Nat → Int32) (fb : Nat → Int32) (fk : Nat → Int32) (fg : Nat → Int32) (p1 : Int32) : Int32 → Int32 → Int32 → (Nat → Int32) → Int32 → Int32 → Int32 → Int32 → (Nat → Int32) → Int32 → (Nat → Int32) → (Nat → Int32) → (Nat → Int32) → (Nat → Int32) → Nat := fun x5 x6 x7 cf' bcc' bac' bfc' blc' bf' lgd' fnf' fb' fk' fg' => 12 - x7.toNatClampNeg
def I_L_makes_120 (lgd : Int32) (ccc : Int32) (cac : Int32) (cfc : Int32) (clc : Int32) (cf : Nat → Int32) (bcc : Int32) (bac : Int32) (bfc : Int32) (blc : Int32) (bf : Nat → Int32) (lgf : Nat → Int32) (cnt : Int32) (call : Int32) (swf : Nat → Int32) (fnf : Nat → Int32) (fb : Nat → Int32) (fk : Nat → Int32) (fg : Nat → Int32) (p1 : Int32) : Int32 → Int32 → Int32 → Int32 → (Nat → Int32) → Int32 → Int32 → Int32 → Int32 → (Nat → Int32) → Int32 → (Nat → Int32) → (Nat → Int32) → (Nat → Int32) → (Nat → Int32) → Prop := fun x5 x6 x7 x8 cf' bcc' bac' bfc' blc' bf' lgd' fnf' fb' fk' fg' => x7 = 1 ∧ bcc' = ccc ∧ bac' = cac ∧ bfc' = cfc ∧ blc' = clc ∧ lgd' = 0 ∧ fg' = upd fg 2 0 ∧ fb' = sel (WW (fg 0) (fg 1) p1) fb 12 ∧ fk' = sel (KW (fg 0) (fg 1) p1) fk 12 ∧ (∃ F B : Nat → Int32, cf' = F ∧ bf' = zcp B F ∧ MK (fg 0) (fg 1) (mN (fg 0) (fg 1)) F (QQ (fg 0) (fg 1) p1)) ∧ ∃ j : Nat, j ≤ mN (fg 0) (fg 1) ∧ x8 = nI j
def mu_L_makes_120 (lgd : Int32) (ccc : Int32) (cac : Int32) (cfc : Int32) (clc : Int32) (cf : Nat → Int32) (bcc : Int32) (bac : Int32) (bfc : Int32) (blc : Int32) (bf : Nat → Int32) (lgf : Nat → Int32) (cnt : Int32) (call : Int32) (swf : Nat → Int32) (fnf : Nat → Int32) (fb : Nat → Int32) (fk : Nat → Int32) (fg : Nat → Int32) (p1 : Int32) : Int32 → Int32 → Int32 → Int32 → (Nat → Int32) → Int32 → Int32 → Int32 → Int32 → (Nat → Int32) → Int32 → (Nat → Int32) → (Nat → Int32) → (Nat → Int32) → (Nat → Int32) → Nat := fun x5 x6 x7 x8 cf' bcc' bac' bfc' blc' bf' lgd' fnf' fb' fk' fg' => 12 - x8.toNatClampNeg
theorem upd_2 (f : Nat → Int32) (x : Int32) : upd f 2 x 0 = f 0 ∧ upd f 2 x 1 = f 1 ∧ upd f 2 x 2 = x := ⟨rfl, rfl, rfl⟩
theorem pl_L_makes_13 (lgd : Int32) (ccc : Int32) (cac : Int32) (cfc : Int32) (clc : Int32) (cf : Nat → Int32) (bcc : Int32) (bac : Int32) (bfc : Int32) (blc : Int32) (bf : Nat → Int32) (lgf : Nat → Int32) (cnt : Int32) (call : Int32) (swf : Nat → Int32) (fnf : Nat → Int32) (fb : Nat → Int32) (fk : Nat → Int32) (fg : Nat → Int32) (p1 : Int32) (hpre : PK ccc cac cfc clc cf bcc bac bfc blc bf fb fk fg ∧ ¬ p1 < 0) : ∀ (x5 : Int32) (x6 : Int32) (x7 : Int32) (cf' : Nat → Int32) (bcc' : Int32) (bac' : Int32) (bfc' : Int32) (blc' : Int32) (bf' : Nat → Int32) (lgd' : Int32) (fnf' : Nat → Int32) (fb' : Nat → Int32) (fk' : Nat → Int32) (fg' : Nat → Int32), I_L_makes_13 lgd ccc cac cfc clc cf bcc bac bfc blc bf lgf cnt call swf fnf fb fk fg p1 x5 x6 x7 cf' bcc' bac' bfc' blc' bf' lgd' fnf' fb' fk' fg' → vs_L_makes_13 lgd ccc cac cfc clc cf bcc bac bfc blc bf lgf cnt call swf fnf fb fk fg p1 (fun (r : Int32) (u : (Nat → Int32) × Int32 × Int32 × Int32 × Int32 × (Nat → Int32) × Int32 × (Nat → Int32) × (Nat → Int32) × (Nat → Int32) × (Nat → Int32)) => r = 1 ∧ (∀ z, PI u.2.2.2.2.2.2.1 ccc cac cfc clc u.1 u.2.1 u.2.2.1 u.2.2.2.1 u.2.2.2.2.1 u.2.2.2.2.2.1 lgf u.2.2.2.2.2.2.2.2.1 u.2.2.2.2.2.2.2.2.2.1 u.2.2.2.2.2.2.2.2.2.2 z)) (fun (x59 : Int32) (x69 : Int32) (x79 : Int32) (cf9 : Nat → Int32) (bcc9 : Int32) (bac9 : Int32) (bfc9 : Int32) (blc9 : Int32) (bf9 : Nat → Int32) (lgd9 : Int32) (fnf9 : Nat → Int32) (fb9 : Nat → Int32) (fk9 : Nat → Int32) (fg9 : Nat → Int32) => I_L_makes_13 lgd ccc cac cfc clc cf bcc bac bfc blc bf lgf cnt call swf fnf fb fk fg p1 x59 x69 x79 cf9 bcc9 bac9 bfc9 blc9 bf9 lgd9 fnf9 fb9 fk9 fg9 ∧ mu_L_makes_13 lgd ccc cac cfc clc cf bcc bac bfc blc bf lgf cnt call swf fnf fb fk fg p1 x59 x69 x79 cf9 bcc9 bac9 bfc9 blc9 bf9 lgd9 fnf9 fb9 fk9 fg9 < mu_L_makes_13 lgd ccc cac cfc clc cf bcc bac bfc blc bf lgf cnt call swf fnf fb fk fg p1 x5 x6 x7 cf' bcc' bac' bfc' blc' bf' lgd' fnf' fb' fk' fg') (I_L_makes_120 lgd ccc cac cfc clc cf bcc bac bfc blc bf lgf cnt call swf fnf fb fk fg p1) x5 x6 x7 cf' bcc' bac' bfc' blc' bf' lgd' fnf' fb' fk' fg' := by
  rintro x5 x6 x7 cf' bcc' bac' bfc' blc' bf' lgd' fnf' fb' fk' fg' ⟨rfl, rfl, rfl, rfl, rfl, rfl, rfl, rfl, rfl, j, hj, rfl, rfl, rfl, rfl⟩
  obtain ⟨⟨r, c, N, cl, ⟨g, hF, hC, hb, hs, hsc, hcl⟩, ⟨⟨rfl, rfl, rfl, rfl⟩, rfl, rfl, rfl, rfl⟩, hkk⟩, hp⟩ := hpre
  obtain ⟨m, hm, rfl⟩ := nI_of hp
  have hN := (gN g).2
  have em := gmN g
  have M := QQ_MK g hm cf fnf
  obtain ⟨m1, m2, m3, m4⟩ := id M
  have F2 := FB_zcp (f := bf) m1
  have s2 := SND_congr g m1 F2 m2 m3
  unfold vs_L_makes_13
  rw [gzN g, gmul g, show (12 : Int32) = nI 12 from rfl]
  refine ⟨fun c0 => ?_, fun c0 => ?_⟩
  · have c0 := k_le (by omega) (by omega) c0
    obtain rfl : j = 12 := by omega
    have h1 : zcs (fg 1) (zac (fg 0) (fg 1)) (zfc (fg 1) r) (zlc (fg 1) (zfc (fg 1) r)) (zcp bf (zmkF (fg 1) (zac (fg 0) (fg 1)) (zfc (fg 1) r) (zlc (fg 1) (zfc (fg 1) r)) cf fnf (nI m) N)) 0 5 = 1 := by
      rw [zcs_eq g (gf := fun _ => 0) (fun _ _ => rfl) F2 m2 s2]
      exact msR_1 (QQ_one g hm)
    refine ⟨fun _ => ⟨⟨zval_FB hN F2, ⟨hN, gbc g⟩, by decide⟩, fun _ => ⟨⟨⟨hN, gbc g⟩, hp⟩, fun _ => ?_, fun z => absurd (made_told g hm _ _) z⟩, fun z => absurd h1 z⟩, fun z => absurd rfl z⟩
    exact ⟨rfl, rfl, rfl, rfl, rfl, rfl, rfl, rfl, rfl, ⟨_, _, rfl, rfl, by rw [em]; exact QQ_MK g hm _ _⟩, 0, Nat.zero_le _, rfl⟩
  · have hj12 := k_nle (by omega) (by omega) c0
    have hvj : vp_in (nI j) 12 := vp_in_nI hj12 (by decide)
    rw [nI_clamp (n := j) (by omega)]
    have hJ : ∀ x w, x = WW (fg 0) (fg 1) (nI m) j → w = KW (fg 0) (fg 1) (nI m) j → ∀ y1, y1 = mcn (QQ (fg 0) (fg 1) (nI m)).2 j + upd (sel (KW (fg 0) (fg 1) (nI m)) fk j) j w j → ∀ y2, y2 = nI j + 1 →
        (I_L_makes_13 lgd (fg 1) (zac (fg 0) (fg 1)) (zfc (fg 1) r) (zlc (fg 1) (zfc (fg 1) r)) cf (fg 1) (zac (fg 0) (fg 1)) (zfc (fg 1) r) (zlc (fg 1) (zfc (fg 1) r)) bf lgf cnt call swf fnf fb fk fg (nI m) (mcn (QQ (fg 0) (fg 1) (nI m)).2 12) y1 y2 (zmkF (fg 1) (zac (fg 0) (fg 1)) (zfc (fg 1) r) (zlc (fg 1) (zfc (fg 1) r)) cf fnf (nI m) N) (fg 1) (zac (fg 0) (fg 1)) (zfc (fg 1) r) (zlc (fg 1) (zfc (fg 1) r)) (zcp bf (zmkF (fg 1) (zac (fg 0) (fg 1)) (zfc (fg 1) r) (zlc (fg 1) (zfc (fg 1) r)) cf fnf (nI m) N)) 0 fnf' (upd (sel (WW (fg 0) (fg 1) (nI m)) fb j) j x) (upd (sel (KW (fg 0) (fg 1) (nI m)) fk j) j w) fg ∧ 12 - y2.toNatClampNeg < 12 - (nI j).toNatClampNeg) := by
      intro x w ex ew y1 e1 y2 e2
      subst ex ew e2
      refine ⟨⟨rfl, by rw [gzN g], rfl, rfl, rfl, rfl, by rw [gzN g], rfl, rfl, j + 1, by omega, nI_1 j, ?_, sel_step _ _ _, sel_step _ _ _⟩, hmu 12 hj12 (by decide)⟩
      rw [e1, sel_step, sel_at (by omega), mcn_step g hm hj12]
    have pos0 : ∀ x : Int32, upd (sel (WW (fg 0) (fg 1) (nI m)) fb j) j x j = x := fun x => by unfold upd; rw [if_pos rfl]
    have hK : ∀ x, x = WW (fg 0) (fg 1) (nI m) j → (x ≤ 0 → (0 : Int32) = KW (fg 0) (fg 1) (nI m) j) ∧ (¬ x ≤ 0 → (1 : Int32) = KW (fg 0) (fg 1) (nI m) j) := by
      intro x ex
      obtain ⟨v, hv, e⟩ := WW_bv g hm j hj12
      unfold KW
      rw [ex, e]
      refine ⟨fun h => ?_, fun h => ?_⟩
      · rw [← nI_0] at h
        have := (nI_leI (by omega) (by decide)).mp h
        rw [show v = 0 by omega, if_pos nI_0]
      · rw [if_neg (fun z => h (by rw [z]; decide))]
    simp only [pos0]
    refine ⟨fun c1 => ⟨hvj, hvj, fun c2 => ⟨hvj, hvj, ?_⟩, fun c2 => ⟨hvj, hvj, ?_⟩⟩, fun c1 => ⟨?_, hvj, hvj, fun c2 => ⟨hvj, hvj, ?_⟩, fun c2 => ⟨hvj, hvj, ?_⟩⟩⟩
    · have c1 := k_le (by omega) (by omega) c1
      have e0 : (0 : Int32) = WW (fg 0) (fg 1) (nI m) j := by unfold WW; rw [em, if_neg (by omega)]
      exact hJ _ _ e0 ((hK 0 e0).1 c2)
    · exact absurd (by decide) c2
    · exact zxc_k g (k_nle (by omega) (by omega) c1)
    · have c1 := k_nle (by omega) (by omega) c1
      have e0 := (zat g F2 m2 c1).trans (WW_N g c1).symm
      exact hJ _ _ e0 ((hK _ e0).1 c2)
    · have c1 := k_nle (by omega) (by omega) c1
      have e0 := (zat g F2 m2 c1).trans (WW_N g c1).symm
      exact hJ _ _ e0 ((hK _ e0).2 c2)
theorem pl_L_makes_120 (lgd : Int32) (ccc : Int32) (cac : Int32) (cfc : Int32) (clc : Int32) (cf : Nat → Int32) (bcc : Int32) (bac : Int32) (bfc : Int32) (blc : Int32) (bf : Nat → Int32) (lgf : Nat → Int32) (cnt : Int32) (call : Int32) (swf : Nat → Int32) (fnf : Nat → Int32) (fb : Nat → Int32) (fk : Nat → Int32) (fg : Nat → Int32) (p1 : Int32) (hpre : PK ccc cac cfc clc cf bcc bac bfc blc bf fb fk fg ∧ ¬ p1 < 0) : ∀ (x5 : Int32) (x6 : Int32) (x7 : Int32) (x8 : Int32) (cf' : Nat → Int32) (bcc' : Int32) (bac' : Int32) (bfc' : Int32) (blc' : Int32) (bf' : Nat → Int32) (lgd' : Int32) (fnf' : Nat → Int32) (fb' : Nat → Int32) (fk' : Nat → Int32) (fg' : Nat → Int32), I_L_makes_120 lgd ccc cac cfc clc cf bcc bac bfc blc bf lgf cnt call swf fnf fb fk fg p1 x5 x6 x7 x8 cf' bcc' bac' bfc' blc' bf' lgd' fnf' fb' fk' fg' → vs_L_makes_120 lgd ccc cac cfc clc cf bcc bac bfc blc bf lgf cnt call swf fnf fb fk fg p1 (fun (r : Int32) (u : (Nat → Int32) × Int32 × Int32 × Int32 × Int32 × (Nat → Int32) × Int32 × (Nat → Int32) × (Nat → Int32) × (Nat → Int32) × (Nat → Int32)) => r = 1 ∧ (∀ z, PI u.2.2.2.2.2.2.1 ccc cac cfc clc u.1 u.2.1 u.2.2.1 u.2.2.2.1 u.2.2.2.2.1 u.2.2.2.2.2.1 lgf u.2.2.2.2.2.2.2.2.1 u.2.2.2.2.2.2.2.2.2.1 u.2.2.2.2.2.2.2.2.2.2 z)) (I_L_makes_13 lgd ccc cac cfc clc cf bcc bac bfc blc bf lgf cnt call swf fnf fb fk fg p1) (fun (x59 : Int32) (x69 : Int32) (x79 : Int32) (x89 : Int32) (cf9 : Nat → Int32) (bcc9 : Int32) (bac9 : Int32) (bfc9 : Int32) (blc9 : Int32) (bf9 : Nat → Int32) (lgd9 : Int32) (fnf9 : Nat → Int32) (fb9 : Nat → Int32) (fk9 : Nat → Int32) (fg9 : Nat → Int32) => I_L_makes_120 lgd ccc cac cfc clc cf bcc bac bfc blc bf lgf cnt call swf fnf fb fk fg p1 x59 x69 x79 x89 cf9 bcc9 bac9 bfc9 blc9 bf9 lgd9 fnf9 fb9 fk9 fg9 ∧ mu_L_makes_120 lgd ccc cac cfc clc cf bcc bac bfc blc bf lgf cnt call swf fnf fb fk fg p1 x59 x69 x79 x89 cf9 bcc9 bac9 bfc9 blc9 bf9 lgd9 fnf9 fb9 fk9 fg9 < mu_L_makes_120 lgd ccc cac cfc clc cf bcc bac bfc blc bf lgf cnt call swf fnf fb fk fg p1 x5 x6 x7 x8 cf' bcc' bac' bfc' blc' bf' lgd' fnf' fb' fk' fg') x5 x6 x7 x8 cf' bcc' bac' bfc' blc' bf' lgd' fnf' fb' fk' fg' := by
  rintro x5 x6 x7 x8 cf' bcc' bac' bfc' blc' bf' lgd' fnf' fb' fk' fg' ⟨rfl, rfl, rfl, rfl, rfl, rfl, rfl, rfl, rfl, ⟨F, B, rfl, rfl, M⟩, j, hj, rfl⟩
  obtain ⟨⟨r, c, N, cl, ⟨g, hF, hC, hb, hs, hsc, hcl⟩, ⟨⟨rfl, rfl, rfl, rfl⟩, rfl, rfl, rfl, rfl⟩, hkk⟩, hp⟩ := hpre
  obtain ⟨m, hm, rfl⟩ := nI_of hp
  have hN := (gN g).2
  have em := gmN g
  have M0 := M
  rw [em] at hj M
  obtain ⟨m1, m2, m3, m4⟩ := id M
  have F2 := FB_zcp (f := B) m1
  have hend : ∀ z, PI 0 (fg 1) (zac (fg 0) (fg 1)) (zfc (fg 1) r) (zlc (fg 1) (zfc (fg 1) r)) cf' (fg 1) (zac (fg 0) (fg 1)) (zfc (fg 1) r) (zlc (fg 1) (zfc (fg 1) r)) (zcp B cf') lgf (sel (WW (fg 0) (fg 1) (nI m)) fb 12) (sel (KW (fg 0) (fg 1) (nI m)) fk 12) (upd fg 2 0) z := by
    intro z
    obtain ⟨z1, z2⟩ := made_RB (d := fb) (lgf := lgf) (fl := z) (B := B) g hm M
    refine ⟨r, c, N, 0, (QQ (fg 0) (fg 1) (nI m)).2, z1, ⟨⟨rfl, rfl, rfl, rfl⟩, rfl, rfl, rfl, rfl⟩, fun i hi => ?_, rfl, rfl, z2⟩
    rw [sel_at hi, KW_bt g hm]
  unfold vs_L_makes_120
  rw [(upd_2 fg 0).1, (upd_2 fg 0).2.1, gmul g]
  refine ⟨fun c0 => ⟨rfl, rfl, hend⟩, fun c0 => ⟨fun z => absurd z (by decide), fun _ => ?_⟩⟩
  have hjN := k_nle (by omega) (by omega) c0
  have hvj : vp_in (nI j) 12 := vp_in_nI (by omega) (by decide)
  have hzx := zxc_k g hjN
  have hJ : ∀ y, y = nI j + 1 → (I_L_makes_120 lgd (fg 1) (zac (fg 0) (fg 1)) (zfc (fg 1) r) (zlc (fg 1) (zfc (fg 1) r)) cf (fg 1) (zac (fg 0) (fg 1)) (zfc (fg 1) r) (zlc (fg 1) (zfc (fg 1) r)) bf lgf cnt call swf fnf fb fk fg (nI m) x5 x6 1 y cf' (fg 1) (zac (fg 0) (fg 1)) (zfc (fg 1) r) (zlc (fg 1) (zfc (fg 1) r)) (zcp B cf') 0 fnf' (sel (WW (fg 0) (fg 1) (nI m)) fb 12) (sel (KW (fg 0) (fg 1) (nI m)) fk 12) (upd fg 2 0) ∧ 12 - y.toNatClampNeg < 12 - (nI j).toNatClampNeg) := by
    rintro y rfl
    exact ⟨⟨rfl, rfl, rfl, rfl, rfl, rfl, rfl, rfl, rfl, ⟨cf', B, rfl, rfl, M0⟩, j + 1, by rw [em]; omega, nI_1 j⟩, hmu 12 (by omega) (by decide)⟩
  rw [nI_clamp (n := j) (by omega), zat g F2 m2 hjN, zat g m1 m2 hjN, sel_at (by omega), WW_N g hjN]
  refine ⟨hzx, hvj, fun _ => ⟨hzx, hvj, fun c2 => ⟨fun _ => hJ, fun z => absurd ?_ z⟩, fun c2 => ⟨fun _ => hJ, fun z => absurd ?_ z⟩⟩, fun z => absurd rfl z⟩
  · obtain ⟨v, hv, e⟩ := m2 j hjN
    rw [e] at c2 ⊢
    rw [← nI_0] at c2
    have := (nI_leI (by omega) (by decide)).mp c2
    rw [show v = 0 by omega, decide_eq_true nI_0]; rfl
  · rw [decide_eq_false (fun z => c2 (by rw [z]; decide))]; rfl
theorem pe_L_makes (lgd : Int32) (ccc : Int32) (cac : Int32) (cfc : Int32) (clc : Int32) (cf : Nat → Int32) (bcc : Int32) (bac : Int32) (bfc : Int32) (blc : Int32) (bf : Nat → Int32) (lgf : Nat → Int32) (cnt : Int32) (call : Int32) (swf : Nat → Int32) (fnf : Nat → Int32) (fb : Nat → Int32) (fk : Nat → Int32) (fg : Nat → Int32) (p1 : Int32) (hpre : PK ccc cac cfc clc cf bcc bac bfc blc bf fb fk fg ∧ ¬ p1 < 0) : ve_L_makes lgd ccc cac cfc clc cf bcc bac bfc blc bf lgf cnt call swf fnf fb fk fg p1 (fun (r : Int32) (u : (Nat → Int32) × Int32 × Int32 × Int32 × Int32 × (Nat → Int32) × Int32 × (Nat → Int32) × (Nat → Int32) × (Nat → Int32) × (Nat → Int32)) => r = 1 ∧ (∀ z, PI u.2.2.2.2.2.2.1 ccc cac cfc clc u.1 u.2.1 u.2.2.1 u.2.2.2.1 u.2.2.2.2.1 u.2.2.2.2.2.1 lgf u.2.2.2.2.2.2.2.2.1 u.2.2.2.2.2.2.2.2.2.1 u.2.2.2.2.2.2.2.2.2.2 z)) (I_L_makes_13 lgd ccc cac cfc clc cf bcc bac bfc blc bf lgf cnt call swf fnf fb fk fg p1) (I_L_makes_120 lgd ccc cac cfc clc cf bcc bac bfc blc bf lgf cnt call swf fnf fb fk fg p1) := by
  obtain ⟨⟨r, c, N, cl, ⟨g, hF, hC, hb, hs, hsc, hcl⟩, ⟨⟨rfl, rfl, rfl, rfl⟩, rfl, rfl, rfl, rfl⟩, hkk⟩, hp⟩ := hpre
  obtain ⟨m, hm, rfl⟩ := nI_of hp
  have hN := (gN g).2
  unfold ve_L_makes
  rw [gzN g]
  refine ⟨⟨⟨hN, gbc g⟩, hp⟩, ?_⟩
  rintro y ey
  refine ⟨?_, by rw [gzN g], rfl, rfl, rfl, rfl, by rw [gzN g], rfl, rfl, 0, Nat.zero_le _, rfl, rfl, (sel_0 _ _).symm, (sel_0 _ _).symm⟩
  rw [ey, made_told g hm]
