/-! make of the class -/
def zmkF (cc ac fc lc : Int32) (cf fnf : Nat → Int32) (p1 : Int32) : Nat → Nat → Int32 | 0 => zsbf cc ac fc lc (zem cf ac) fnf p1.toInt64 | k + 1 => ztk cc ac fc lc (zmkF cc ac fc lc cf fnf p1 k) (znb (mdst p1.toInt64 (zN ac + (k + 1))) (bc ac))
def ve_X0_init (cc : Int32) (ac : Int32) (fc : Int32) (lc : Int32) (p1 : Int32) (p2 : Int32) (P : (Nat × Int32 × Int32 × Int32 × Int32 × (Nat → Int32)) → Prop)  : Prop := ∀ qn1 : Nat, P (qn1, p2, zac p1 p2, zfc p2 (p1 : Int32).toNatClampNeg, zlc p2 (zfc p2 (p1 : Int32).toNatClampNeg), zem (fun _ => 0) (zac p1 p2))
def ve_X1_init (ds : Int64) (p1 : Int32) (P : Int64 → Prop)  : Prop := P (p1.toInt64)
def ve_X2_init (cnt : Int32) (call : Int32) (P : (Nat × Int32 × Int32 × (Nat → Int32)) → Prop)  : Prop := ∀ qn1 : Nat, P (qn1, 0, 0, (fun _ => 0))
def ve_X3_init  (P : (Nat × (Nat → Int32)) → Prop)  : Prop := ∀ qn1 : Nat, P (qn1, (fun _ => 0))
def ve_X4_init (lgd : Int32) (P : (Nat × Nat × Nat × Nat × Nat × Nat × Nat × Nat × Nat × Int32 × Int32 × Int32 × Int32 × (Nat → Int32) × Int32 × Int32 × Int32 × Int32 × (Nat → Int32) × (Nat → Int32) × Int32 × Int32 × Int32 × (Nat → Int32) × (Nat → Int32)) → Prop)  : Prop := ∀ qn1 : Nat, ∀ za_2 : Nat, ∀ qn3 : Nat, ∀ za_4 : Nat, ∀ qn5 : Nat, ∀ qn6 : Nat, ∀ sa_7 : Nat, ∀ qn8 : Nat, ∀ va_9 : Nat, P (qn1, za_2, qn3, za_4, qn5, qn6, sa_7, qn8, va_9, 3, zac 3 3, zfc 3 (3 : Int32).toNatClampNeg, zlc 3 (zfc 3 (3 : Int32).toNatClampNeg), zem (fun _ => 0) (zac 3 3), 3, zac 3 3, zfc 3 (3 : Int32).toNatClampNeg, zlc 3 (zfc 3 (3 : Int32).toNatClampNeg), zem (fun _ => 0) (zac 3 3), (fun _ => 0), 0, 0, 0, (fun _ => 0), (fun _ => 0))
def ve_X5_init (rw : Int32) (co : Int32) (cl : Int32) (fi : Int32) (st : Int64) (th : Int32) (P : (Nat × Nat × Nat × Nat × Nat × Nat × Nat × Int32 × Int32 × (Nat → Int32) × (Nat → Int32) × (Nat → Int32) × (Nat → Int32) × (Nat → Int32) × (Nat → Int32) × (Nat → Int32)) → Prop)  : Prop := ∀ qn1 : Nat, ∀ qn2 : Nat, ∀ qn3 : Nat, ∀ qn4 : Nat, ∀ qn5 : Nat, ∀ qn6 : Nat, ∀ qn7 : Nat, P (qn1, qn2, qn3, qn4, qn5, qn6, qn7, 3, 3, (fun _ => 0), (fun _ => 0), (fun _ => 0), (fun _ => 0), (fun _ => 0), (fun _ => 0), (fun _ => 0))
def vs_X4_make_53 (lgd : Int32) (ccc : Int32) (cac : Int32) (cfc : Int32) (clc : Int32) (cf : Nat → Int32) (bcc : Int32) (bac : Int32) (bfc : Int32) (blc : Int32) (bf : Nat → Int32) (lgf : Nat → Int32) (cnt : Int32) (call : Int32) (swf : Nat → Int32) (fnf : Nat → Int32) (p1 : Int32) (P : Int32 → ((Nat → Int32) × Int32 × Int32 × Int32 × Int32 × (Nat → Int32) × Int32 × (Nat → Int32)) → Prop) (X : String → ((Nat → Int32) × Int32 × Int32 × Int32 × Int32 × (Nat → Int32) × Int32 × (Nat → Int32)) → Prop) (J53 : Int32 → Int32 → (Nat → Int32) → Int32 → Int32 → Int32 → Int32 → (Nat → Int32) → Int32 → (Nat → Int32) → Nat → Int64 → Prop) (x3 : Int32) (x4 : Int32) (cf' : Nat → Int32) (bcc' : Int32) (bac' : Int32) (bfc' : Int32) (blc' : Int32) (bf' : Nat → Int32) (lgd' : Int32) (fnf' : Nat → Int32) (dq : Nat) (dst : Int64) : Prop := (x3 ≤ x4 → P (x3 - (bc (cf' 0))) (cf', ccc, cac, cfc, clc, zcp bf' cf', 0, fnf')) ∧ (¬ x3 ≤ x4 → (zval cf' ∧ (zN cac ≤ 12 ∧ bc cac = nI (zN cac))) ∧ ∀ y_3 : Int32, y_3 = x4 + 1 → (J53 x3 y_3 (ztk ccc cac cfc clc cf' (znb (mdr dst) x3)) bcc' bac' bfc' blc' bf' lgd' fnf' dq (mdr dst)))
def ve_X4_make (lgd : Int32) (ccc : Int32) (cac : Int32) (cfc : Int32) (clc : Int32) (cf : Nat → Int32) (bcc : Int32) (bac : Int32) (bfc : Int32) (blc : Int32) (bf : Nat → Int32) (lgf : Nat → Int32) (cnt : Int32) (call : Int32) (swf : Nat → Int32) (fnf : Nat → Int32) (p1 : Int32) (P : Int32 → ((Nat → Int32) × Int32 × Int32 × Int32 × Int32 × (Nat → Int32) × Int32 × (Nat → Int32)) → Prop) (X : String → ((Nat → Int32) × Int32 × Int32 × Int32 × Int32 × (Nat → Int32) × Int32 × (Nat → Int32)) → Prop) (J53 : Int32 → Int32 → (Nat → Int32) → Int32 → Int32 → Int32 → Int32 → (Nat → Int32) → Int32 → (Nat → Int32) → Nat → Int64 → Prop) : Prop := (0 ≤ p1 → ∀ qn5 : Nat, (zval (zem cf cac) ∧ zN cac ≤ 12 ∧ bc cac = nI (zN cac)) ∧ ∀ y_7 : Int32, y_7 = bc cac → (J53 y_7 0 (zsbf ccc cac cfc clc (zem cf cac) fnf ((p1 : Int32).toInt64)) bcc bac bfc blc bf lgd (zsbn cac fnf ((p1 : Int32).toInt64)) qn5 (mdst ((p1 : Int32).toInt64) (zN cac)))) ∧ (¬ 0 ≤ p1 → X ff_ia (cf, bcc, bac, bfc, blc, bf, lgd, fnf))
theorem zval_zem (f : Nat → Int32) (ac : Int32) : zval (zem f ac) := by
  intro k h1 h2 i hi h0
  unfold zem
  rw [if_pos h2, if_neg (by omega)]
  exact bt_0 i
theorem zval_zfl {cc ac fc lc : Int32} {fnf : Nat → Int32} {N : Nat} : ∀ (k : Nat) (f : Nat → Int32), zval f → ∀ g, g ∈ zfl cc ac fc lc fnf N k f → zval g
  | 0, f, hv, g, hg => by
    rw [zfl, List.mem_singleton] at hg
    rw [hg]; exact hv
  | k + 1, f, hv, g, hg => by
    rw [zfl] at hg
    obtain ⟨t, _, hg⟩ := mem_tcat 9 hg
    split at hg
    · exact zval_zfl k _ (zval_zwr hv _ _) g hg
    · exact absurd hg (by simp)
theorem zval_zsbf {cc ac fc lc : Int32} {f fnf : Nat → Int32} {ds : Int64} (hv : zval f) : zval (zsbf cc ac fc lc f fnf ds) := by
  unfold zsbf zsf
  cases h : (zfl cc ac fc lc (zsbn ac fnf ds) (bc ac).toNatClampNeg ((bc ac).toNatClampNeg - (0 : Int32).toNatClampNeg) f).head? with
  | none => exact hv
  | some g => exact zval_zfl _ _ hv _ (List.mem_of_mem_head? h)
theorem zval_ztk {cc ac fc lc : Int32} {f : Nat → Int32} (hv : zval f) (c : Int32) : zval (ztk cc ac fc lc f c) := by
  unfold ztk
  split
  · exact hv
  · split
    · exact zval_zwr hv _ _
    · exact zval_zwr (zval_zwr hv _ _) _ _
theorem zval_zmkF {cc ac fc lc : Int32} {cf fnf : Nat → Int32} {p1 : Int32} : ∀ k, zval (zmkF cc ac fc lc cf fnf p1 k)
  | 0 => zval_zsbf (zval_zem _ _)
  | k + 1 => zval_ztk (zval_zmkF k) _
theorem pe_X0_init (cc : Int32) (ac : Int32) (fc : Int32) (lc : Int32) (p1 : Int32) (p2 : Int32) : ve_X0_init cc ac fc lc p1 p2 (fun (u : Nat × Int32 × Int32 × Int32 × Int32 × (Nat → Int32)) => u.2 = (p2, zac p1 p2, zfc p2 (p1 : Int32).toNatClampNeg, zlc p2 (zfc p2 (p1 : Int32).toNatClampNeg), zem (fun _ => 0) (zac p1 p2)))  := by
  intro q
  exact rfl
theorem pe_X1_init (ds : Int64) (p1 : Int32) : ve_X1_init ds p1 (fun (u : Int64) => u = ((p1 : Int32).toInt64))  := rfl
theorem pe_X2_init (cnt : Int32) (call : Int32) : ve_X2_init cnt call (fun (u : Nat × Int32 × Int32 × (Nat → Int32)) => u.2 = (0, 0, (fun _ => 0)))  := by
  intro q
  exact rfl
theorem pe_X3_init  : ve_X3_init  (fun (u : Nat × (Nat → Int32)) => u.2 = ((fun _ => 0)))  := by
  intro q
  exact rfl
theorem pe_X4_init (lgd : Int32) : ve_X4_init lgd (fun (u : Nat × Nat × Nat × Nat × Nat × Nat × Nat × Nat × Nat × Int32 × Int32 × Int32 × Int32 × (Nat → Int32) × Int32 × Int32 × Int32 × Int32 × (Nat → Int32) × (Nat → Int32) × Int32 × Int32 × Int32 × (Nat → Int32) × (Nat → Int32)) => u.2.2.2.2.2.2.2.2.2 = (3, zac 3 3, zfc 3 (3 : Int32).toNatClampNeg, zlc 3 (zfc 3 (3 : Int32).toNatClampNeg), zem (fun _ => 0) (zac 3 3), 3, zac 3 3, zfc 3 (3 : Int32).toNatClampNeg, zlc 3 (zfc 3 (3 : Int32).toNatClampNeg), zem (fun _ => 0) (zac 3 3), (fun _ => 0), 0, 0, 0, (fun _ => 0), (fun _ => 0)))  := by
  intro q1 q2 q3 q4 q5 q6 q7 q8 q9
  exact rfl
theorem pe_X5_init (rw : Int32) (co : Int32) (cl : Int32) (fi : Int32) (st : Int64) (th : Int32) : ve_X5_init rw co cl fi st th (fun (u : Nat × Nat × Nat × Nat × Nat × Nat × Nat × Int32 × Int32 × (Nat → Int32) × (Nat → Int32) × (Nat → Int32) × (Nat → Int32) × (Nat → Int32) × (Nat → Int32) × (Nat → Int32)) => u.2.2.2.2.2.2.2 = (3, 3, (fun _ => 0), (fun _ => 0), (fun _ => 0), (fun _ => 0), (fun _ => 0), (fun _ => 0), (fun _ => 0)))  := by
  intro q1 q2 q3 q4 q5 q6 q7
  exact rfl
def I_X4_make_53 (lgd : Int32) (ccc : Int32) (cac : Int32) (cfc : Int32) (clc : Int32) (cf : Nat → Int32) (bcc : Int32) (bac : Int32) (bfc : Int32) (blc : Int32) (bf : Nat → Int32) (lgf : Nat → Int32) (cnt : Int32) (call : Int32) (swf : Nat → Int32) (fnf : Nat → Int32) (p1 : Int32) : Int32 → Int32 → (Nat → Int32) → Int32 → Int32 → Int32 → Int32 → (Nat → Int32) → Int32 → (Nat → Int32) → Nat → Int64 → Prop := fun x3 x4 cf' bcc' bac' bfc' blc' bf' lgd' fnf' dq dst => 0 ≤ p1 ∧ x3 = bc cac ∧ fnf' = zsbn cac fnf p1.toInt64 ∧ bf' = bf ∧ ∃ k : Nat, k ≤ zN cac ∧ x4 = nI k ∧ cf' = zmkF ccc cac cfc clc cf fnf p1 k ∧ dst = mdst p1.toInt64 (zN cac + k)
def mu_X4_make_53 (lgd : Int32) (ccc : Int32) (cac : Int32) (cfc : Int32) (clc : Int32) (cf : Nat → Int32) (bcc : Int32) (bac : Int32) (bfc : Int32) (blc : Int32) (bf : Nat → Int32) (lgf : Nat → Int32) (cnt : Int32) (call : Int32) (swf : Nat → Int32) (fnf : Nat → Int32) (p1 : Int32) : Int32 → Int32 → (Nat → Int32) → Int32 → Int32 → Int32 → Int32 → (Nat → Int32) → Int32 → (Nat → Int32) → Nat → Int64 → Nat := fun x3 x4 cf' bcc' bac' bfc' blc' bf' lgd' fnf' dq dst => zN cac - x4.toNatClampNeg
theorem pl_X4_make_53 (lgd : Int32) (ccc : Int32) (cac : Int32) (cfc : Int32) (clc : Int32) (cf : Nat → Int32) (bcc : Int32) (bac : Int32) (bfc : Int32) (blc : Int32) (bf : Nat → Int32) (lgf : Nat → Int32) (cnt : Int32) (call : Int32) (swf : Nat → Int32) (fnf : Nat → Int32) (p1 : Int32) (hpre : zN cac ≤ 12 ∧ bc cac = nI (zN cac)) : ∀ (x3 : Int32) (x4 : Int32) (cf' : Nat → Int32) (bcc' : Int32) (bac' : Int32) (bfc' : Int32) (blc' : Int32) (bf' : Nat → Int32) (lgd' : Int32) (fnf' : Nat → Int32) (dq : Nat) (dst : Int64), I_X4_make_53 lgd ccc cac cfc clc cf bcc bac bfc blc bf lgf cnt call swf fnf p1 x3 x4 cf' bcc' bac' bfc' blc' bf' lgd' fnf' dq dst → vs_X4_make_53 lgd ccc cac cfc clc cf bcc bac bfc blc bf lgf cnt call swf fnf p1 (fun (r : Int32) (u : (Nat → Int32) × Int32 × Int32 × Int32 × Int32 × (Nat → Int32) × Int32 × (Nat → Int32)) => r = bc cac - bc (zmkF ccc cac cfc clc cf fnf p1 (zN cac) 0) ∧ u = (zmkF ccc cac cfc clc cf fnf p1 (zN cac), ccc, cac, cfc, clc, zcp bf (zmkF ccc cac cfc clc cf fnf p1 (zN cac)), 0, zsbn cac fnf (p1 : Int32).toInt64) ∧ (if p1 < 0 then 2 else 0) = 0) (fun (E : String) (u : (Nat → Int32) × Int32 × Int32 × Int32 × Int32 × (Nat → Int32) × Int32 × (Nat → Int32)) => ¬ (if p1 < 0 then 2 else 0) = 0 ∧ E = xnm ((if p1 < 0 then 2 else 0)) ∧ u = (cf, bcc, bac, bfc, blc, bf, lgd, fnf)) (fun (x39 : Int32) (x49 : Int32) (cf9 : Nat → Int32) (bcc9 : Int32) (bac9 : Int32) (bfc9 : Int32) (blc9 : Int32) (bf9 : Nat → Int32) (lgd9 : Int32) (fnf9 : Nat → Int32) (dq9 : Nat) (dst9 : Int64) => I_X4_make_53 lgd ccc cac cfc clc cf bcc bac bfc blc bf lgf cnt call swf fnf p1 x39 x49 cf9 bcc9 bac9 bfc9 blc9 bf9 lgd9 fnf9 dq9 dst9 ∧ mu_X4_make_53 lgd ccc cac cfc clc cf bcc bac bfc blc bf lgf cnt call swf fnf p1 x39 x49 cf9 bcc9 bac9 bfc9 blc9 bf9 lgd9 fnf9 dq9 dst9 < mu_X4_make_53 lgd ccc cac cfc clc cf bcc bac bfc blc bf lgf cnt call swf fnf p1 x3 x4 cf' bcc' bac' bfc' blc' bf' lgd' fnf' dq dst) x3 x4 cf' bcc' bac' bfc' blc' bf' lgd' fnf' dq dst := by
  rintro x3 x4 cf' bcc' bac' bfc' blc' bf' lgd' fnf' dq dst ⟨h0, rfl, rfl, rfl, k, hk, rfl, rfl, rfl⟩
  obtain ⟨hN, eN⟩ := hpre
  have hn : ¬ p1 < 0 := fun z => absurd h0 (Int32.not_le.mpr z)
  unfold vs_X4_make_53
  refine ⟨fun c => ?_, fun c => ⟨⟨zval_zmkF k, hN, eN⟩, ?_⟩⟩
  · rw [eN] at c
    have c := k_le (by omega) (by omega) c
    obtain rfl : k = zN cac := by omega
    exact ⟨rfl, rfl, if_neg hn⟩
  · rintro y rfl
    rw [eN] at c
    have c := k_nle (by omega) (by omega) c
    exact ⟨⟨h0, rfl, rfl, rfl, k + 1, by omega, nI_1 k, rfl, rfl⟩, hmu _ c (by omega)⟩
theorem pe_X4_make (lgd : Int32) (ccc : Int32) (cac : Int32) (cfc : Int32) (clc : Int32) (cf : Nat → Int32) (bcc : Int32) (bac : Int32) (bfc : Int32) (blc : Int32) (bf : Nat → Int32) (lgf : Nat → Int32) (cnt : Int32) (call : Int32) (swf : Nat → Int32) (fnf : Nat → Int32) (p1 : Int32) (hpre : zN cac ≤ 12 ∧ bc cac = nI (zN cac)) : ve_X4_make lgd ccc cac cfc clc cf bcc bac bfc blc bf lgf cnt call swf fnf p1 (fun (r : Int32) (u : (Nat → Int32) × Int32 × Int32 × Int32 × Int32 × (Nat → Int32) × Int32 × (Nat → Int32)) => r = bc cac - bc (zmkF ccc cac cfc clc cf fnf p1 (zN cac) 0) ∧ u = (zmkF ccc cac cfc clc cf fnf p1 (zN cac), ccc, cac, cfc, clc, zcp bf (zmkF ccc cac cfc clc cf fnf p1 (zN cac)), 0, zsbn cac fnf (p1 : Int32).toInt64) ∧ (if p1 < 0 then 2 else 0) = 0) (fun (E : String) (u : (Nat → Int32) × Int32 × Int32 × Int32 × Int32 × (Nat → Int32) × Int32 × (Nat → Int32)) => ¬ (if p1 < 0 then 2 else 0) = 0 ∧ E = xnm ((if p1 < 0 then 2 else 0)) ∧ u = (cf, bcc, bac, bfc, blc, bf, lgd, fnf)) (I_X4_make_53 lgd ccc cac cfc clc cf bcc bac bfc blc bf lgf cnt call swf fnf p1) := by
  refine ⟨fun h0 q => ⟨⟨zval_zem _ _, hpre⟩, ?_⟩, fun h0 => ?_⟩
  · rintro y rfl
    exact ⟨h0, rfl, rfl, rfl, 0, Nat.zero_le _, rfl, rfl, rfl⟩
  · have hn : p1 < 0 := Int32.not_le.mp h0
    refine ⟨?_, ?_, rfl⟩ <;> rw [if_pos hn]
    · decide
    · rfl
