/-! the calls, where nothing is thrown -/
def ve_X4_requireCellN (lgd : Int32) (ccc : Int32) (cac : Int32) (cfc : Int32) (clc : Int32) (cf : Nat → Int32) (bcc : Int32) (bac : Int32) (bfc : Int32) (blc : Int32) (bf : Nat → Int32) (lgf : Nat → Int32) (cnt : Int32) (call : Int32) (swf : Nat → Int32) (fnf : Nat → Int32) (p1 : Int32) (P : Unit → Prop)  : Prop := (p1 < 0 → False) ∧ (¬ p1 < 0 → (p1 < (bc bac) → P ()) ∧ (¬ p1 < (bc bac) → False))
def ve_X4_requireNumberN (p0 : Int32) (P : Unit → Prop)  : Prop := (p0 < 1 → False) ∧ (¬ p0 < 1 → (p0 ≤ 9 → P ()) ∧ (¬ p0 ≤ 9 → False))
def ve_X4_atN (lgd : Int32) (ccc : Int32) (cac : Int32) (cfc : Int32) (clc : Int32) (cf : Nat → Int32) (bcc : Int32) (bac : Int32) (bfc : Int32) (blc : Int32) (bf : Nat → Int32) (lgf : Nat → Int32) (cnt : Int32) (call : Int32) (swf : Nat → Int32) (fnf : Nat → Int32) (p1 : Int32) (P : Int32 → Unit → Prop)  : Prop := (zxc bac p1 = 0) ∧ P (zni bf p1 9) ()
def ve_X4_isClueN (lgd : Int32) (ccc : Int32) (cac : Int32) (cfc : Int32) (clc : Int32) (cf : Nat → Int32) (bcc : Int32) (bac : Int32) (bfc : Int32) (blc : Int32) (bf : Nat → Int32) (lgf : Nat → Int32) (cnt : Int32) (call : Int32) (swf : Nat → Int32) (fnf : Nat → Int32) (p1 : Int32) (P : Int32 → Unit → Prop)  : Prop := (zxc bac p1 = 0) ∧ ((zni cf p1 9) = 0 → P 0 ()) ∧ (¬ (zni cf p1 9) = 0 → P 1 ())
def ve_X4_sizeN (lgd : Int32) (ccc : Int32) (cac : Int32) (cfc : Int32) (clc : Int32) (cf : Nat → Int32) (bcc : Int32) (bac : Int32) (bfc : Int32) (blc : Int32) (bf : Nat → Int32) (lgf : Nat → Int32) (cnt : Int32) (call : Int32) (swf : Nat → Int32) (fnf : Nat → Int32) (p1 : Int32) (P : Int32 → Unit → Prop)  : Prop := (zxc bac p1 = 0) ∧ P (bc (zfo bcc bac bfc blc bf p1)) ()
def ve_X4_roomN (lgd : Int32) (ccc : Int32) (cac : Int32) (cfc : Int32) (clc : Int32) (cf : Nat → Int32) (bcc : Int32) (bac : Int32) (bfc : Int32) (blc : Int32) (bf : Nat → Int32) (lgf : Nat → Int32) (cnt : Int32) (call : Int32) (swf : Nat → Int32) (fnf : Nat → Int32) (p1 : Int32) (P : Int32 → Unit → Prop)  : Prop := (zxc bac p1 = 0) ∧ P (bc (zro bcc bac bfc blc bf p1)) ()
def ve_X4_isHiddenN (lgd : Int32) (ccc : Int32) (cac : Int32) (cfc : Int32) (clc : Int32) (cf : Nat → Int32) (bcc : Int32) (bac : Int32) (bfc : Int32) (blc : Int32) (bf : Nat → Int32) (lgf : Nat → Int32) (cnt : Int32) (call : Int32) (swf : Nat → Int32) (fnf : Nat → Int32) (p1 : Int32) (P : Int32 → Unit → Prop)  : Prop := (zxc bac p1 = 0) ∧ P (b2i (zhas (zhi bcc bac bfc blc bf) p1)) ()
def ve_X4_shapesN (lgd : Int32) (ccc : Int32) (cac : Int32) (cfc : Int32) (clc : Int32) (cf : Nat → Int32) (bcc : Int32) (bac : Int32) (bfc : Int32) (blc : Int32) (bf : Nat → Int32) (lgf : Nat → Int32) (cnt : Int32) (call : Int32) (swf : Nat → Int32) (fnf : Nat → Int32) (p1 : Int32) (P : Int32 → (Int32 × Int32 × (Nat → Int32)) → Prop)  : Prop := (zxc bac p1 = 0) ∧ P ((zli bcc bac bfc blc bf p1 swf).1) ((zli bcc bac bfc blc bf p1 swf).1, (zli bcc bac bfc blc bf p1 swf).2.1, (zli bcc bac bfc blc bf p1 swf).2.2)
def ve_X4_canBeN (lgd : Int32) (ccc : Int32) (cac : Int32) (cfc : Int32) (clc : Int32) (cf : Nat → Int32) (bcc : Int32) (bac : Int32) (bfc : Int32) (blc : Int32) (bf : Nat → Int32) (lgf : Nat → Int32) (cnt : Int32) (call : Int32) (swf : Nat → Int32) (fnf : Nat → Int32) (p1 : Int32) (p2 : Int32) (P : Int32 → ((Nat → Int32)) → Prop)  : Prop := (zxc bac p1 = 0) ∧ (zxn p2 = 0) ∧ P (b2i (zct bcc bac bfc blc bf p1 p2)) (zctf bf p1 p2)
def ve_X4_shapesWithN (lgd : Int32) (ccc : Int32) (cac : Int32) (cfc : Int32) (clc : Int32) (cf : Nat → Int32) (bcc : Int32) (bac : Int32) (bfc : Int32) (blc : Int32) (bf : Nat → Int32) (lgf : Nat → Int32) (cnt : Int32) (call : Int32) (swf : Nat → Int32) (fnf : Nat → Int32) (p1 : Int32) (p2 : Int32) (P : Int32 → (Int32 × Int32 × (Nat → Int32)) → Prop)  : Prop := (zxc bac p1 = 0) ∧ (zxc bac p2 = 0) ∧ P (if ¬ p2 < 0 ∧ p2 < 12 then ((zli bcc bac bfc blc bf p1 swf).2.2) p2.toNatClampNeg else 0) ((zli bcc bac bfc blc bf p1 swf).1, (zli bcc bac bfc blc bf p1 swf).2.1, (zli bcc bac bfc blc bf p1 swf).2.2)
def ve_X4_solutionsN (lgd : Int32) (ccc : Int32) (cac : Int32) (cfc : Int32) (clc : Int32) (cf : Nat → Int32) (bcc : Int32) (bac : Int32) (bfc : Int32) (blc : Int32) (bf : Nat → Int32) (lgf : Nat → Int32) (cnt : Int32) (call : Int32) (swf : Nat → Int32) (fnf : Nat → Int32) (p1 : Int32) (P : Int32 → ((Nat → Int32)) → Prop)  : Prop := (p1 < 1 → False) ∧ (¬ p1 < 1 → (p1 ≤ 5 → (zrp bac bf 0 p1 13) ∧ P (zcs bcc bac bfc blc bf 0 p1) (bf)) ∧ (¬ p1 ≤ 5 → False))
def ve_X4_layN (lgd : Int32) (ccc : Int32) (cac : Int32) (cfc : Int32) (clc : Int32) (cf : Nat → Int32) (bcc : Int32) (bac : Int32) (bfc : Int32) (blc : Int32) (bf : Nat → Int32) (lgf : Nat → Int32) (cnt : Int32) (call : Int32) (swf : Nat → Int32) (fnf : Nat → Int32) (p1 : Int32) (p2 : Int32) (P : Int32 → (Int32 × Int32 × Int32 × Int32 × (Nat → Int32) × Int32 × Int32 × Int32 × Int32 × (Nat → Int32) × Int32) → Prop)  : Prop := ((b2i (min3 p1 2 4)) = 0 → False) ∧ (¬ (b2i (min3 p1 2 4)) = 0 → ((b2i (min3 p2 2 4)) = 0 → False) ∧ (¬ (b2i (min3 p2 2 4)) = 0 → ((p1 * p2) ≤ 12 → P (bc (zac p1 p2)) (p2, zac p1 p2, zfc p2 (p1 : Int32).toNatClampNeg, zlc p2 (zfc p2 (p1 : Int32).toNatClampNeg), zem cf (zac p1 p2), p2, (zac p1 p2), (zfc p2 (p1 : Int32).toNatClampNeg), (zlc p2 (zfc p2 (p1 : Int32).toNatClampNeg)), zcp bf (zem cf (zac p1 p2)), 0)) ∧ (¬ (p1 * p2) ≤ 12 → False)))
def ve_X4_undoN (lgd : Int32) (ccc : Int32) (cac : Int32) (cfc : Int32) (clc : Int32) (cf : Nat → Int32) (bcc : Int32) (bac : Int32) (bfc : Int32) (blc : Int32) (bf : Nat → Int32) (lgf : Nat → Int32) (cnt : Int32) (call : Int32) (swf : Nat → Int32) (fnf : Nat → Int32) (P : Int32 → ((Nat → Int32) × Int32) → Prop)  : Prop := (lgd ≤ 0 → False) ∧ (¬ lgd ≤ 0 → (lgd ≤ 12 → vp_in (lgd - 1) 12 ∧ ∀ y_4 : Int32, y_4 = lgf (lgd - 1 : Int32).toNatClampNeg → P y_4 (zwr bf y_4 0, lgd - 1)) ∧ (¬ lgd ≤ 12 → False))
def ve_X4_runN (lgd : Int32) (ccc : Int32) (cac : Int32) (cfc : Int32) (clc : Int32) (cf : Nat → Int32) (bcc : Int32) (bac : Int32) (bfc : Int32) (blc : Int32) (bf : Nat → Int32) (lgf : Nat → Int32) (cnt : Int32) (call : Int32) (swf : Nat → Int32) (fnf : Nat → Int32) (p1 : Int32) (P : Int32 → ((Nat → Int32) × (Nat → Int32) × Int32 × Int32 × Int32 × (Nat → Int32)) → Prop)  : Prop := (p1 = 0 → (zval bf ∧ (zN bac ≤ 12 ∧ bc bac = nI (zN bac))) ∧ ∀ y_5 : Int32, y_5 = zf1 bcc bac bfc blc bf (zN bac) (zN bac) → (y_5 = (-1) → P y_5 (bf, lgf, lgd, cnt, call, swf)) ∧ (¬ y_5 = (-1) → P y_5 (if zlg lgd then zwr bf (y_5 / 10) (y_5 - y_5 / 10 * 10) else bf, if zlg lgd then upd lgf lgd.toNatClampNeg (y_5 / 10) else lgf, if zlg lgd then lgd + 1 else lgd, cnt, call, swf))) ∧ (¬ p1 = 0 → (p1 = 1 → (zval bf ∧ (zN bac ≤ 12 ∧ bc bac = nI (zN bac))) ∧ ∀ (cnt_8 : Int32) (call_8 : Int32) (swf_8 : Nat → Int32), ∀ y_9 : Int32, y_9 = zf2 bcc bac bfc blc bf → (y_9 = (-1) → P y_9 (bf, lgf, lgd, cnt_8, call_8, swf_8)) ∧ (¬ y_9 = (-1) → P y_9 (if zlg lgd then zwr bf (y_9 / 10) (y_9 - y_9 / 10 * 10) else bf, if zlg lgd then upd lgf lgd.toNatClampNeg (y_9 / 10) else lgf, if zlg lgd then lgd + 1 else lgd, cnt_8, call_8, swf_8))) ∧ (¬ p1 = 1 → (p1 = 2 → (zval bf ∧ (zN bac ≤ 12 ∧ bc bac = nI (zN bac))) ∧ ∀ y_12 : Int32, y_12 = zf3 bcc bac bfc blc bf (zN bac) (zN bac) → (y_12 = (-1) → P y_12 (bf, lgf, lgd, cnt, call, swf)) ∧ (¬ y_12 = (-1) → P y_12 (if zlg lgd then zwr bf (y_12 / 10) (y_12 - y_12 / 10 * 10) else bf, if zlg lgd then upd lgf lgd.toNatClampNeg (y_12 / 10) else lgf, if zlg lgd then lgd + 1 else lgd, cnt, call, swf))) ∧ (¬ p1 = 2 → False)))
def vs_X4_makeN_53 (lgd : Int32) (ccc : Int32) (cac : Int32) (cfc : Int32) (clc : Int32) (cf : Nat → Int32) (bcc : Int32) (bac : Int32) (bfc : Int32) (blc : Int32) (bf : Nat → Int32) (lgf : Nat → Int32) (cnt : Int32) (call : Int32) (swf : Nat → Int32) (fnf : Nat → Int32) (p1 : Int32) (P : Int32 → ((Nat → Int32) × Int32 × Int32 × Int32 × Int32 × (Nat → Int32) × Int32 × (Nat → Int32)) → Prop) (J53 : Int32 → Int32 → (Nat → Int32) → Int32 → Int32 → Int32 → Int32 → (Nat → Int32) → Int32 → (Nat → Int32) → Nat → Int64 → Prop) (x3 : Int32) (x4 : Int32) (cf' : Nat → Int32) (bcc' : Int32) (bac' : Int32) (bfc' : Int32) (blc' : Int32) (bf' : Nat → Int32) (lgd' : Int32) (fnf' : Nat → Int32) (dq : Nat) (dst : Int64) : Prop := (x3 ≤ x4 → P (x3 - (bc (cf' 0))) (cf', ccc, cac, cfc, clc, zcp bf' cf', 0, fnf')) ∧ (¬ x3 ≤ x4 → (zval cf' ∧ (zN cac ≤ 12 ∧ bc cac = nI (zN cac))) ∧ ∀ y_3 : Int32, y_3 = x4 + 1 → (J53 x3 y_3 (ztk ccc cac cfc clc cf' (znb (mdr dst) x3)) bcc' bac' bfc' blc' bf' lgd' fnf' dq (mdr dst)))
def ve_X4_makeN (lgd : Int32) (ccc : Int32) (cac : Int32) (cfc : Int32) (clc : Int32) (cf : Nat → Int32) (bcc : Int32) (bac : Int32) (bfc : Int32) (blc : Int32) (bf : Nat → Int32) (lgf : Nat → Int32) (cnt : Int32) (call : Int32) (swf : Nat → Int32) (fnf : Nat → Int32) (p1 : Int32) (P : Int32 → ((Nat → Int32) × Int32 × Int32 × Int32 × Int32 × (Nat → Int32) × Int32 × (Nat → Int32)) → Prop) (J53 : Int32 → Int32 → (Nat → Int32) → Int32 → Int32 → Int32 → Int32 → (Nat → Int32) → Int32 → (Nat → Int32) → Nat → Int64 → Prop) : Prop := (0 ≤ p1 → ∀ qn5 : Nat, (zval (zem cf cac) ∧ zN cac ≤ 12 ∧ bc cac = nI (zN cac)) ∧ ∀ y_7 : Int32, y_7 = bc cac → (J53 y_7 0 (zsbf ccc cac cfc clc (zem cf cac) fnf ((p1 : Int32).toInt64)) bcc bac bfc blc bf lgd (zsbn cac fnf ((p1 : Int32).toInt64)) qn5 (mdst ((p1 : Int32).toInt64) (zN cac)))) ∧ (¬ 0 ≤ p1 → False)
theorem zxc_0 {ac c : Int32} (h : zxc ac c = 0) : ¬ c < 0 ∧ c < bc ac := by
  unfold zxc at h
  split at h
  · exact absurd h (by decide)
  · next h1 =>
    split at h
    · next h2 => exact ⟨h1, h2⟩
    · exact absurd h (by decide)
theorem zxn_0 {c : Int32} (h : zxn c = 0) : ¬ c < 1 ∧ c ≤ 9 := by
  unfold zxn at h
  split at h
  · exact absurd h (by decide)
  · next h1 =>
    split at h
    · next h2 => exact ⟨h1, h2⟩
    · exact absurd h (by decide)
theorem zx2_0 {ac c n : Int32} (h : zx2 ac c n = 0) : zxc ac c = 0 ∧ zxn n = 0 := by
  unfold zx2 at h
  split at h
  · next h1 => exact ⟨h1, h⟩
  · next h1 => exact absurd h h1
theorem zxc2_0 {ac c n : Int32} (h : zxc2 ac c n = 0) : zxc ac c = 0 ∧ zxc ac n = 0 := by
  unfold zxc2 at h
  split at h
  · next h1 => exact ⟨h1, h⟩
  · next h1 => exact absurd h h1
theorem zx5_0 {n : Int32} (h : zx5 n = 0) : ¬ n < 1 ∧ n ≤ 5 := by
  unfold zx5 at h
  split at h
  · exact absurd h (by decide)
  · next h1 =>
    split at h
    · next h2 => exact ⟨h1, h2⟩
    · exact absurd h (by decide)
theorem zxl_0 {r c : Int32} (h : zxl r c = 0) : min3 r 2 4 = true ∧ min3 c 2 4 = true ∧ r * c ≤ 12 := by
  unfold zxl at h
  split at h
  · next h1 => exact h1
  · exact absurd h (by decide)
theorem zxd_0 {n : Int32} (h : zxd n = 0) : ¬ n ≤ 0 ∧ n ≤ 12 := by
  unfold zxd at h
  split at h
  · exact absurd h (by decide)
  · next h1 =>
    split at h
    · next h2 => exact ⟨h1, h2⟩
    · exact absurd h (by decide)
theorem zxr_0 {n : Int32} (h : zxr n = 0) : n = 0 ∨ n = 1 ∨ n = 2 := by
  unfold zxr at h
  split at h
  · next h1 => exact h1
  · exact absurd h (by decide)
theorem pe_X4_requireCellN (lgd : Int32) (ccc : Int32) (cac : Int32) (cfc : Int32) (clc : Int32) (cf : Nat → Int32) (bcc : Int32) (bac : Int32) (bfc : Int32) (blc : Int32) (bf : Nat → Int32) (lgf : Nat → Int32) (cnt : Int32) (call : Int32) (swf : Nat → Int32) (fnf : Nat → Int32) (p1 : Int32) (hpre : zxc bac p1 = 0) : ve_X4_requireCellN lgd ccc cac cfc clc cf bcc bac bfc blc bf lgf cnt call swf fnf p1 (fun (u : Unit) => True)  := ⟨fun c => (zxc_0 hpre).1 c, fun _ => ⟨fun _ => trivial, fun c => c (zxc_0 hpre).2⟩⟩
theorem pe_X4_requireNumberN (p0 : Int32) (hpre : zxn p0 = 0) : ve_X4_requireNumberN p0 (fun (u : Unit) => True)  := ⟨fun c => (zxn_0 hpre).1 c, fun _ => ⟨fun _ => trivial, fun c => c (zxn_0 hpre).2⟩⟩
theorem pe_X4_atN (lgd : Int32) (ccc : Int32) (cac : Int32) (cfc : Int32) (clc : Int32) (cf : Nat → Int32) (bcc : Int32) (bac : Int32) (bfc : Int32) (blc : Int32) (bf : Nat → Int32) (lgf : Nat → Int32) (cnt : Int32) (call : Int32) (swf : Nat → Int32) (fnf : Nat → Int32) (p1 : Int32) (hpre : zxc bac p1 = 0) : ve_X4_atN lgd ccc cac cfc clc cf bcc bac bfc blc bf lgf cnt call swf fnf p1 (fun (r : Int32) (u : Unit) => r = zni bf p1 9)  := ⟨hpre, rfl⟩
theorem pe_X4_isClueN (lgd : Int32) (ccc : Int32) (cac : Int32) (cfc : Int32) (clc : Int32) (cf : Nat → Int32) (bcc : Int32) (bac : Int32) (bfc : Int32) (blc : Int32) (bf : Nat → Int32) (lgf : Nat → Int32) (cnt : Int32) (call : Int32) (swf : Nat → Int32) (fnf : Nat → Int32) (p1 : Int32) (hpre : zxc bac p1 = 0) : ve_X4_isClueN lgd ccc cac cfc clc cf bcc bac bfc blc bf lgf cnt call swf fnf p1 (fun (r : Int32) (u : Unit) => r = b2i (!decide (zni cf p1 9 = 0)))  := by
  refine ⟨hpre, fun c2 => ?_, fun c2 => ?_⟩
  · show (0 : Int32) = _
    rw [decide_eq_true c2]; rfl
  · show (1 : Int32) = _
    rw [decide_eq_false c2]; rfl
theorem pe_X4_sizeN (lgd : Int32) (ccc : Int32) (cac : Int32) (cfc : Int32) (clc : Int32) (cf : Nat → Int32) (bcc : Int32) (bac : Int32) (bfc : Int32) (blc : Int32) (bf : Nat → Int32) (lgf : Nat → Int32) (cnt : Int32) (call : Int32) (swf : Nat → Int32) (fnf : Nat → Int32) (p1 : Int32) (hpre : zxc bac p1 = 0) : ve_X4_sizeN lgd ccc cac cfc clc cf bcc bac bfc blc bf lgf cnt call swf fnf p1 (fun (r : Int32) (u : Unit) => r = bc (zfo bcc bac bfc blc bf p1))  := ⟨hpre, rfl⟩
theorem pe_X4_roomN (lgd : Int32) (ccc : Int32) (cac : Int32) (cfc : Int32) (clc : Int32) (cf : Nat → Int32) (bcc : Int32) (bac : Int32) (bfc : Int32) (blc : Int32) (bf : Nat → Int32) (lgf : Nat → Int32) (cnt : Int32) (call : Int32) (swf : Nat → Int32) (fnf : Nat → Int32) (p1 : Int32) (hpre : zxc bac p1 = 0) : ve_X4_roomN lgd ccc cac cfc clc cf bcc bac bfc blc bf lgf cnt call swf fnf p1 (fun (r : Int32) (u : Unit) => r = bc (zro bcc bac bfc blc bf p1))  := ⟨hpre, rfl⟩
theorem pe_X4_isHiddenN (lgd : Int32) (ccc : Int32) (cac : Int32) (cfc : Int32) (clc : Int32) (cf : Nat → Int32) (bcc : Int32) (bac : Int32) (bfc : Int32) (blc : Int32) (bf : Nat → Int32) (lgf : Nat → Int32) (cnt : Int32) (call : Int32) (swf : Nat → Int32) (fnf : Nat → Int32) (p1 : Int32) (hpre : zxc bac p1 = 0) : ve_X4_isHiddenN lgd ccc cac cfc clc cf bcc bac bfc blc bf lgf cnt call swf fnf p1 (fun (r : Int32) (u : Unit) => r = b2i (zhas (zhi bcc bac bfc blc bf) p1))  := ⟨hpre, rfl⟩
theorem pe_X4_shapesN (lgd : Int32) (ccc : Int32) (cac : Int32) (cfc : Int32) (clc : Int32) (cf : Nat → Int32) (bcc : Int32) (bac : Int32) (bfc : Int32) (blc : Int32) (bf : Nat → Int32) (lgf : Nat → Int32) (cnt : Int32) (call : Int32) (swf : Nat → Int32) (fnf : Nat → Int32) (p1 : Int32) (hpre : zxc bac p1 = 0) : ve_X4_shapesN lgd ccc cac cfc clc cf bcc bac bfc blc bf lgf cnt call swf fnf p1 (fun (r : Int32) (u : Int32 × Int32 × (Nat → Int32)) => r = (zli bcc bac bfc blc bf p1 swf).1)  := ⟨hpre, rfl⟩
theorem pe_X4_canBeN (lgd : Int32) (ccc : Int32) (cac : Int32) (cfc : Int32) (clc : Int32) (cf : Nat → Int32) (bcc : Int32) (bac : Int32) (bfc : Int32) (blc : Int32) (bf : Nat → Int32) (lgf : Nat → Int32) (cnt : Int32) (call : Int32) (swf : Nat → Int32) (fnf : Nat → Int32) (p1 : Int32) (p2 : Int32) (hpre : zval bf ∧ zx2 bac p1 p2 = 0) : ve_X4_canBeN lgd ccc cac cfc clc cf bcc bac bfc blc bf lgf cnt call swf fnf p1 p2 (fun (r : Int32) (u : (Nat → Int32)) => r = b2i (zct bcc bac bfc blc bf p1 p2) ∧ u = (bf))  := ⟨(zx2_0 hpre.2).1, (zx2_0 hpre.2).2, rfl, zctf_same hpre.1 _ _⟩
theorem pe_X4_shapesWithN (lgd : Int32) (ccc : Int32) (cac : Int32) (cfc : Int32) (clc : Int32) (cf : Nat → Int32) (bcc : Int32) (bac : Int32) (bfc : Int32) (blc : Int32) (bf : Nat → Int32) (lgf : Nat → Int32) (cnt : Int32) (call : Int32) (swf : Nat → Int32) (fnf : Nat → Int32) (p1 : Int32) (p2 : Int32) (hpre : zxc2 bac p1 p2 = 0) : ve_X4_shapesWithN lgd ccc cac cfc clc cf bcc bac bfc blc bf lgf cnt call swf fnf p1 p2 (fun (r : Int32) (u : Int32 × Int32 × (Nat → Int32)) => r = zsw (zli bcc bac bfc blc bf p1 swf).2.2 p2)  := ⟨(zxc2_0 hpre).1, (zxc2_0 hpre).2, rfl⟩
theorem pe_X4_solutionsN (lgd : Int32) (ccc : Int32) (cac : Int32) (cfc : Int32) (clc : Int32) (cf : Nat → Int32) (bcc : Int32) (bac : Int32) (bfc : Int32) (blc : Int32) (bf : Nat → Int32) (lgf : Nat → Int32) (cnt : Int32) (call : Int32) (swf : Nat → Int32) (fnf : Nat → Int32) (p1 : Int32) (hpre : zval bf ∧ (zN bac ≤ 12 ∧ bc bac = nI (zN bac)) ∧ zx5 p1 = 0) : ve_X4_solutionsN lgd ccc cac cfc clc cf bcc bac bfc blc bf lgf cnt call swf fnf p1 (fun (r : Int32) (u : (Nat → Int32)) => r = zcs bcc bac bfc blc bf 0 p1 ∧ u = (bf))  := by
  obtain ⟨hv, ⟨hN, eN⟩, h5⟩ := hpre
  obtain ⟨c, c2⟩ := zx5_0 h5
  refine ⟨fun z => c z, fun _ => ⟨fun _ => ⟨?_, rfl, rfl⟩, fun z => z c2⟩⟩
  have h5 : min3 p1 1 5 = true := by unfold min3; rw [decide_eq_true (Int32.not_lt.mp c), decide_eq_true c2]; rfl
  obtain ⟨q, h1, h2, rfl⟩ := min15_in h5
  exact ⟨hv, ⟨hN, eN⟩, 0, q, rfl, Nat.zero_le _, by omega, rfl, h1, h2⟩
theorem pe_X4_layN (lgd : Int32) (ccc : Int32) (cac : Int32) (cfc : Int32) (clc : Int32) (cf : Nat → Int32) (bcc : Int32) (bac : Int32) (bfc : Int32) (blc : Int32) (bf : Nat → Int32) (lgf : Nat → Int32) (cnt : Int32) (call : Int32) (swf : Nat → Int32) (fnf : Nat → Int32) (p1 : Int32) (p2 : Int32) (hpre : zxl p1 p2 = 0) : ve_X4_layN lgd ccc cac cfc clc cf bcc bac bfc blc bf lgf cnt call swf fnf p1 p2 (fun (r : Int32) (u : Int32 × Int32 × Int32 × Int32 × (Nat → Int32) × Int32 × Int32 × Int32 × Int32 × (Nat → Int32) × Int32) => r = bc (zac p1 p2) ∧ u = (p2, zac p1 p2, zfc p2 p1.toNatClampNeg, zlc p2 (zfc p2 p1.toNatClampNeg), zem cf (zac p1 p2), p2, zac p1 p2, zfc p2 p1.toNatClampNeg, zlc p2 (zfc p2 p1.toNatClampNeg), zcp bf (zem cf (zac p1 p2)), 0))  := by
  obtain ⟨c, c2, c3⟩ := zxl_0 hpre
  exact ⟨fun z => absurd c (by rw [b2i_eq0] at z; rw [z]; decide), fun _ => ⟨fun z => absurd c2 (by rw [b2i_eq0] at z; rw [z]; decide), fun _ => ⟨fun _ => ⟨rfl, rfl⟩, fun z => z c3⟩⟩⟩
theorem pe_X4_undoN (lgd : Int32) (ccc : Int32) (cac : Int32) (cfc : Int32) (clc : Int32) (cf : Nat → Int32) (bcc : Int32) (bac : Int32) (bfc : Int32) (blc : Int32) (bf : Nat → Int32) (lgf : Nat → Int32) (cnt : Int32) (call : Int32) (swf : Nat → Int32) (fnf : Nat → Int32) (hpre : zxd lgd = 0) : ve_X4_undoN lgd ccc cac cfc clc cf bcc bac bfc blc bf lgf cnt call swf fnf (fun (r : Int32) (u : (Nat → Int32) × Int32) => r = lgf (lgd - 1).toNatClampNeg ∧ u = (zwr bf (lgf (lgd - 1).toNatClampNeg) 0, lgd - 1))  := by
  obtain ⟨c, c2⟩ := zxd_0 hpre
  refine ⟨fun z => c z, fun _ => ⟨fun _ => ⟨?_, ?_⟩, fun z => z c2⟩⟩
  · obtain ⟨j, hj, rfl⟩ := nI_of2 (x := lgd) (M := 12) (n := 12) (by decide) (fun z => c (by rw [fx_le]; rw [fx_lt] at z; omega)) c2
    cases j with
    | zero => exact absurd (by decide) c
    | succ j => rw [nI_pred]; exact vp_in_nI (by omega) (by decide)
  · rintro y rfl
    exact ⟨rfl, rfl⟩
theorem pe_X4_runN (lgd : Int32) (ccc : Int32) (cac : Int32) (cfc : Int32) (clc : Int32) (cf : Nat → Int32) (bcc : Int32) (bac : Int32) (bfc : Int32) (blc : Int32) (bf : Nat → Int32) (lgf : Nat → Int32) (cnt : Int32) (call : Int32) (swf : Nat → Int32) (fnf : Nat → Int32) (p1 : Int32) (hpre : zval bf ∧ (zN bac ≤ 12 ∧ bc bac = nI (zN bac)) ∧ zxr p1 = 0) : ve_X4_runN lgd ccc cac cfc clc cf bcc bac bfc blc bf lgf cnt call swf fnf p1 (fun (r : Int32) (u : (Nat → Int32) × (Nat → Int32) × Int32 × Int32 × Int32 × (Nat → Int32)) => r = (zrun bcc bac bfc blc bf p1) ∧ u.1 = (if ¬ (zrun bcc bac bfc blc bf p1) = -1 ∧ zlg lgd then zwr bf ((zrun bcc bac bfc blc bf p1) / 10) (zrem (zrun bcc bac bfc blc bf p1) 10) else bf) ∧ u.2.1 = (if ¬ (zrun bcc bac bfc blc bf p1) = -1 ∧ zlg lgd then upd lgf lgd.toNatClampNeg ((zrun bcc bac bfc blc bf p1) / 10) else lgf) ∧ u.2.2.1 = (if ¬ (zrun bcc bac bfc blc bf p1) = -1 ∧ zlg lgd then lgd + 1 else lgd))  := by
  obtain ⟨hv, hN, hr⟩ := hpre
  have hr := zxr_0 hr
  refine ⟨fun c => ⟨⟨hv, hN⟩, ?_⟩, fun c => ⟨fun c2 => ⟨⟨hv, hN⟩, fun a1 a2 a3 => ?_⟩, fun c2 => ⟨fun c3 => ⟨⟨hv, hN⟩, ?_⟩, fun c3 => ?_⟩⟩⟩
  · intro y hy
    have e : zrun bcc bac bfc blc bf p1 = y := by unfold zrun; rw [if_pos c, hy]
    rw [e]
    exact ⟨fun c4 => ⟨rfl, by simp [c4], by simp [c4], by simp [c4]⟩, fun c4 => ⟨rfl, by simp [c4, zrem], by simp [c4], by simp [c4]⟩⟩
  · intro y hy
    have e : zrun bcc bac bfc blc bf p1 = y := by unfold zrun; rw [if_neg c, if_pos c2, hy]
    rw [e]
    exact ⟨fun c4 => ⟨rfl, by simp [c4], by simp [c4], by simp [c4]⟩, fun c4 => ⟨rfl, by simp [c4, zrem], by simp [c4], by simp [c4]⟩⟩
  · intro y hy
    have e : zrun bcc bac bfc blc bf p1 = y := by unfold zrun; rw [if_neg c, if_neg c2, hy]
    rw [e]
    exact ⟨fun c4 => ⟨rfl, by simp [c4], by simp [c4], by simp [c4]⟩, fun c4 => ⟨rfl, by simp [c4, zrem], by simp [c4], by simp [c4]⟩⟩
  · rcases hr with z | z | z
    · exact c z
    · exact c2 z
    · exact c3 z
def I_X4_makeN_53 (lgd : Int32) (ccc : Int32) (cac : Int32) (cfc : Int32) (clc : Int32) (cf : Nat → Int32) (bcc : Int32) (bac : Int32) (bfc : Int32) (blc : Int32) (bf : Nat → Int32) (lgf : Nat → Int32) (cnt : Int32) (call : Int32) (swf : Nat → Int32) (fnf : Nat → Int32) (p1 : Int32) : Int32 → Int32 → (Nat → Int32) → Int32 → Int32 → Int32 → Int32 → (Nat → Int32) → Int32 → (Nat → Int32) → Nat → Int64 → Prop := fun x3 x4 cf' bcc' bac' bfc' blc' bf' lgd' fnf' dq dst => 0 ≤ p1 ∧ x3 = bc cac ∧ fnf' = zsbn cac fnf p1.toInt64 ∧ bf' = bf ∧ ∃ k : Nat, k ≤ zN cac ∧ x4 = nI k ∧ cf' = zmkF ccc cac cfc clc cf fnf p1 k ∧ dst = mdst p1.toInt64 (zN cac + k)
def mu_X4_makeN_53 (lgd : Int32) (ccc : Int32) (cac : Int32) (cfc : Int32) (clc : Int32) (cf : Nat → Int32) (bcc : Int32) (bac : Int32) (bfc : Int32) (blc : Int32) (bf : Nat → Int32) (lgf : Nat → Int32) (cnt : Int32) (call : Int32) (swf : Nat → Int32) (fnf : Nat → Int32) (p1 : Int32) : Int32 → Int32 → (Nat → Int32) → Int32 → Int32 → Int32 → Int32 → (Nat → Int32) → Int32 → (Nat → Int32) → Nat → Int64 → Nat := fun x3 x4 cf' bcc' bac' bfc' blc' bf' lgd' fnf' dq dst => zN cac - x4.toNatClampNeg
theorem pl_X4_makeN_53 (lgd : Int32) (ccc : Int32) (cac : Int32) (cfc : Int32) (clc : Int32) (cf : Nat → Int32) (bcc : Int32) (bac : Int32) (bfc : Int32) (blc : Int32) (bf : Nat → Int32) (lgf : Nat → Int32) (cnt : Int32) (call : Int32) (swf : Nat → Int32) (fnf : Nat → Int32) (p1 : Int32) (hpre : (zN cac ≤ 12 ∧ bc cac = nI (zN cac)) ∧ ¬ p1 < 0) : ∀ (x3 : Int32) (x4 : Int32) (cf' : Nat → Int32) (bcc' : Int32) (bac' : Int32) (bfc' : Int32) (blc' : Int32) (bf' : Nat → Int32) (lgd' : Int32) (fnf' : Nat → Int32) (dq : Nat) (dst : Int64), I_X4_makeN_53 lgd ccc cac cfc clc cf bcc bac bfc blc bf lgf cnt call swf fnf p1 x3 x4 cf' bcc' bac' bfc' blc' bf' lgd' fnf' dq dst → vs_X4_makeN_53 lgd ccc cac cfc clc cf bcc bac bfc blc bf lgf cnt call swf fnf p1 (fun (r : Int32) (u : (Nat → Int32) × Int32 × Int32 × Int32 × Int32 × (Nat → Int32) × Int32 × (Nat → Int32)) => r = bc cac - bc (zmkF ccc cac cfc clc cf fnf p1 (zN cac) 0) ∧ u = (zmkF ccc cac cfc clc cf fnf p1 (zN cac), ccc, cac, cfc, clc, zcp bf (zmkF ccc cac cfc clc cf fnf p1 (zN cac)), 0, zsbn cac fnf (p1 : Int32).toInt64)) (fun (x39 : Int32) (x49 : Int32) (cf9 : Nat → Int32) (bcc9 : Int32) (bac9 : Int32) (bfc9 : Int32) (blc9 : Int32) (bf9 : Nat → Int32) (lgd9 : Int32) (fnf9 : Nat → Int32) (dq9 : Nat) (dst9 : Int64) => I_X4_makeN_53 lgd ccc cac cfc clc cf bcc bac bfc blc bf lgf cnt call swf fnf p1 x39 x49 cf9 bcc9 bac9 bfc9 blc9 bf9 lgd9 fnf9 dq9 dst9 ∧ mu_X4_makeN_53 lgd ccc cac cfc clc cf bcc bac bfc blc bf lgf cnt call swf fnf p1 x39 x49 cf9 bcc9 bac9 bfc9 blc9 bf9 lgd9 fnf9 dq9 dst9 < mu_X4_makeN_53 lgd ccc cac cfc clc cf bcc bac bfc blc bf lgf cnt call swf fnf p1 x3 x4 cf' bcc' bac' bfc' blc' bf' lgd' fnf' dq dst) x3 x4 cf' bcc' bac' bfc' blc' bf' lgd' fnf' dq dst := by
  rintro x3 x4 cf' bcc' bac' bfc' blc' bf' lgd' fnf' dq dst ⟨h0, rfl, rfl, rfl, k, hk, rfl, rfl, rfl⟩
  obtain ⟨⟨hN, eN⟩, hn⟩ := hpre
  unfold vs_X4_makeN_53
  refine ⟨fun c => ?_, fun c => ⟨⟨zval_zmkF k, hN, eN⟩, ?_⟩⟩
  · rw [eN] at c
    have c := k_le (by omega) (by omega) c
    obtain rfl : k = zN cac := by omega
    exact ⟨rfl, rfl⟩
  · rintro y rfl
    rw [eN] at c
    have c := k_nle (by omega) (by omega) c
    exact ⟨⟨h0, rfl, rfl, rfl, k + 1, by omega, nI_1 k, rfl, rfl⟩, hmu _ c (by omega)⟩
theorem pe_X4_makeN (lgd : Int32) (ccc : Int32) (cac : Int32) (cfc : Int32) (clc : Int32) (cf : Nat → Int32) (bcc : Int32) (bac : Int32) (bfc : Int32) (blc : Int32) (bf : Nat → Int32) (lgf : Nat → Int32) (cnt : Int32) (call : Int32) (swf : Nat → Int32) (fnf : Nat → Int32) (p1 : Int32) (hpre : (zN cac ≤ 12 ∧ bc cac = nI (zN cac)) ∧ ¬ p1 < 0) : ve_X4_makeN lgd ccc cac cfc clc cf bcc bac bfc blc bf lgf cnt call swf fnf p1 (fun (r : Int32) (u : (Nat → Int32) × Int32 × Int32 × Int32 × Int32 × (Nat → Int32) × Int32 × (Nat → Int32)) => r = bc cac - bc (zmkF ccc cac cfc clc cf fnf p1 (zN cac) 0) ∧ u = (zmkF ccc cac cfc clc cf fnf p1 (zN cac), ccc, cac, cfc, clc, zcp bf (zmkF ccc cac cfc clc cf fnf p1 (zN cac)), 0, zsbn cac fnf (p1 : Int32).toInt64)) (I_X4_makeN_53 lgd ccc cac cfc clc cf bcc bac bfc blc bf lgf cnt call swf fnf p1) := by
  refine ⟨fun h0 q => ⟨⟨zval_zem _ _, hpre.1⟩, ?_⟩, fun h0 => ?_⟩
  · rintro y rfl
    exact ⟨h0, rfl, rfl, rfl, 0, Nat.zero_le _, rfl, rfl, rfl⟩
  · exact hpre.2 (Int32.not_le.mp h0)
