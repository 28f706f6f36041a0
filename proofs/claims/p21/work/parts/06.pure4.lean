def I_X5_reaches_15 (rw : Int32) (co : Int32) (cl : Int32) (fi : Int32) (st : Int64) (th : Int32) (bd : Nat → Int32) (lf : Nat → Int32) (hf : Nat → Int32) (of : Nat → Int32) (gf : Nat → Int32) (tf : Nat → Int32) (kf : Nat → Int32) (p1 : Int32) (p2 : Int32) : Int32 → Int32 → Int32 → Prop := fun x3 x4 x5 => ∃ i j : Nat, i + j = ((bd p1.toNatClampNeg).toInt - (mcn (mfo rw co bd hf p1) 12).toInt).toNat ∧ x5.toInt = (mcn (mfo rw co bd hf p1) 12).toInt + i ∧ mrc rw co (hf 0) j x4 = mrc rw co (hf 0) ((bd p1.toNatClampNeg).toInt - (mcn (mfo rw co bd hf p1) 12).toInt).toNat (mfo rw co bd hf p1)
def mu_X5_reaches_15 (rw : Int32) (co : Int32) (cl : Int32) (fi : Int32) (st : Int64) (th : Int32) (bd : Nat → Int32) (lf : Nat → Int32) (hf : Nat → Int32) (of : Nat → Int32) (gf : Nat → Int32) (tf : Nat → Int32) (kf : Nat → Int32) (p1 : Int32) (p2 : Int32) : Int32 → Int32 → Int32 → Nat := fun x3 x4 x5 => ((bd p1.toNatClampNeg).toInt - x5.toInt).toNat
theorem toInt_succ {x : Int32} {n : Nat} (h : x.toInt < n) (hn : n < 2 ^ 31) : (x + 1).toInt = x.toInt + 1 := by
  rw [Int32.toInt_add]
  have h1 : (1 : Int32).toInt = 1 := by decide
  have h2 := Int32.le_toInt x
  rw [h1]
  have e : x.toInt + 1 = (x.toInt + 1).bmod (2 ^ 32) := by
    rw [Int.bmod_eq_of_le] <;> omega
  exact e.symm
theorem pl_X5_reaches_15 (rw : Int32) (co : Int32) (cl : Int32) (fi : Int32) (st : Int64) (th : Int32) (bd : Nat → Int32) (lf : Nat → Int32) (hf : Nat → Int32) (of : Nat → Int32) (gf : Nat → Int32) (tf : Nat → Int32) (kf : Nat → Int32) (p1 : Int32) (p2 : Int32) (hpre : mcw bd p1) : ∀ (x3 : Int32) (x4 : Int32) (x5 : Int32), I_X5_reaches_15 rw co cl fi st th bd lf hf of gf tf kf p1 p2 x3 x4 x5 → vs_X5_reaches_15 rw co cl fi st th bd lf hf of gf tf kf p1 p2 (fun (r : Int32) (u : Unit) => r = b2i (mrch rw co bd hf p1 p2)) (fun (x39 : Int32) (x49 : Int32) (x59 : Int32) => I_X5_reaches_15 rw co cl fi st th bd lf hf of gf tf kf p1 p2 x39 x49 x59 ∧ mu_X5_reaches_15 rw co cl fi st th bd lf hf of gf tf kf p1 p2 x39 x49 x59 < mu_X5_reaches_15 rw co cl fi st th bd lf hf of gf tf kf p1 p2 x3 x4 x5) x3 x4 x5 := by
  rintro x3 x4 x5 ⟨i, j, hij, e5, he⟩
  obtain ⟨hv, hb⟩ := hpre
  obtain ⟨b, hb1, hb2⟩ := vp_10 hb
  have hbi : (bd p1.toNatClampNeg).toInt = b := by rw [hb2]; exact nI_toInt (by omega)
  refine ⟨hv, fun c => ?_, fun c => ?_⟩
  · rw [fx_le] at c
    obtain rfl : j = 0 := by omega
    show b2i (mhas x4 p2) = b2i (mrch rw co bd hf p1 p2)
    unfold mrch; rw [← he]; rfl
  · rw [fx_le] at c
    obtain ⟨j, rfl⟩ : ∃ j', j = j' + 1 := ⟨j - 1, by omega⟩
    rw [cl_0]
    rintro y rfl y2 rfl
    have es : (x5 + 1).toInt = x5.toInt + 1 := toInt_succ (n := b) (by omega) (by omega)
    refine ⟨⟨i + 1, j, by omega, by omega, ?_⟩, ?_⟩
    · rw [← he]; rfl
    · show ((bd p1.toNatClampNeg).toInt - (x5 + 1).toInt).toNat < ((bd p1.toNatClampNeg).toInt - x5.toInt).toNat
      omega
theorem pe_X5_reaches (rw : Int32) (co : Int32) (cl : Int32) (fi : Int32) (st : Int64) (th : Int32) (bd : Nat → Int32) (lf : Nat → Int32) (hf : Nat → Int32) (of : Nat → Int32) (gf : Nat → Int32) (tf : Nat → Int32) (kf : Nat → Int32) (p1 : Int32) (p2 : Int32) (hpre : mcw bd p1) : ve_X5_reaches rw co cl fi st th bd lf hf of gf tf kf p1 p2 (fun (r : Int32) (u : Unit) => r = b2i (mrch rw co bd hf p1 p2)) (I_X5_reaches_15 rw co cl fi st th bd lf hf of gf tf kf p1 p2) := by
  refine ⟨hpre, ?_⟩
  rintro y rfl y2 rfl
  exact ⟨0, _, Nat.zero_add _, by simp, rfl⟩
def I_X5_hides_17 (rw : Int32) (co : Int32) (cl : Int32) (fi : Int32) (st : Int64) (th : Int32) (bd : Nat → Int32) (lf : Nat → Int32) (hf : Nat → Int32) (of : Nat → Int32) (gf : Nat → Int32) (tf : Nat → Int32) (kf : Nat → Int32) (p1 : Int32) : Int32 → Int32 → Prop := fun x2 x3 => ∃ (k j : Nat) (b : Bool), k + j = mN rw co ∧ x3 = nI k ∧ x2 = b2i b ∧ (b && mhdF rw co bd hf p1 (mN rw co) j) = mhd rw co bd hf p1
def mu_X5_hides_17 (rw : Int32) (co : Int32) (cl : Int32) (fi : Int32) (st : Int64) (th : Int32) (bd : Nat → Int32) (lf : Nat → Int32) (hf : Nat → Int32) (of : Nat → Int32) (gf : Nat → Int32) (tf : Nat → Int32) (kf : Nat → Int32) (p1 : Int32) : Int32 → Int32 → Nat := fun x2 x3 => mN rw co - x3.toNatClampNeg
theorem pl_X5_hides_17 (rw : Int32) (co : Int32) (cl : Int32) (fi : Int32) (st : Int64) (th : Int32) (bd : Nat → Int32) (lf : Nat → Int32) (hf : Nat → Int32) (of : Nat → Int32) (gf : Nat → Int32) (tf : Nat → Int32) (kf : Nat → Int32) (p1 : Int32) (hpre : mok rw co bd ∧ vp_in p1 12) : ∀ (x2 : Int32) (x3 : Int32), I_X5_hides_17 rw co cl fi st th bd lf hf of gf tf kf p1 x2 x3 → vs_X5_hides_17 rw co cl fi st th bd lf hf of gf tf kf p1 (fun (r : Int32) (u : Unit) => r = b2i (mhd rw co bd hf p1)) (fun (x29 : Int32) (x39 : Int32) => I_X5_hides_17 rw co cl fi st th bd lf hf of gf tf kf p1 x29 x39 ∧ mu_X5_hides_17 rw co cl fi st th bd lf hf of gf tf kf p1 x29 x39 < mu_X5_hides_17 rw co cl fi st th bd lf hf of gf tf kf p1 x2 x3) x2 x3 := by
  rintro x2 x3 ⟨k, j, b, hkj, rfl, rfl, he⟩
  obtain ⟨hok, hv1⟩ := hpre
  have hN := mok_N hok
  have hmN : mN rw co = (rw * co).toNatClampNeg := rfl
  refine ⟨fun c => ?_, fun c => ?_⟩
  · rw [cl_le _ (by omega)] at c
    obtain rfl : j = 0 := by omega
    refine ⟨b2i_narrow _, ?_⟩
    rw [← he]; simp [mhdF]
  · rw [cl_le _ (by omega)] at c
    obtain ⟨i, rfl⟩ : ∃ i, j = i + 1 := ⟨j - 1, by omega⟩
    have ek : mN rw co - (i + 1) = k := by omega
    have e1 : (nI k).toNatClampNeg = k := nI_clamp (by omega)
    have hv : vp_in (nI k) 12 := vp_in_nI (by omega) (by decide)
    refine ⟨fun c2 => ?_, fun c2 => ?_⟩
    · rw [b2i_eq0] at c2
      subst c2
      exact ⟨b2i_narrow _, by rw [← he]; rfl⟩
    · rw [b2i_ne0] at c2
      subst c2
      simp only [mhdF, ek, Bool.true_and] at he
      rw [e1]
      refine ⟨hv, fun c3 => ?_, fun c3 => ⟨mok_cw hok hv, fun c4 => ?_, fun c4 => ?_⟩⟩
      · rintro y rfl
        exact ⟨⟨k + 1, i, true, by omega, nI_1 k, rfl, by rw [← he, decide_eq_true c3]; rfl⟩, hmu _ (by omega) (by omega)⟩
      · rintro y rfl
        rw [b2i_eq0] at c4
        exact ⟨⟨k + 1, i, true, by omega, nI_1 k, rfl, by rw [← he, c4, decide_eq_false c3]; rfl⟩, hmu _ (by omega) (by omega)⟩
      · rintro y rfl
        rw [b2i_ne0] at c4
        exact ⟨⟨k + 1, i, false, by omega, nI_1 k, rfl, by rw [← he, c4, decide_eq_false c3]; rfl⟩, hmu _ (by omega) (by omega)⟩
theorem pe_X5_hides (rw : Int32) (co : Int32) (cl : Int32) (fi : Int32) (st : Int64) (th : Int32) (bd : Nat → Int32) (lf : Nat → Int32) (hf : Nat → Int32) (of : Nat → Int32) (gf : Nat → Int32) (tf : Nat → Int32) (kf : Nat → Int32) (p1 : Int32) (hpre : mok rw co bd ∧ vp_in p1 12) : ve_X5_hides rw co cl fi st th bd lf hf of gf tf kf p1 (fun (r : Int32) (u : Unit) => r = b2i (mhd rw co bd hf p1)) (I_X5_hides_17 rw co cl fi st th bd lf hf of gf tf kf p1) := by
  refine ⟨hpre.2, fun c => ?_, fun c => ?_⟩
  · exact ⟨0, mN rw co, true, Nat.zero_add _, rfl, rfl, by unfold mhd; rw [decide_eq_true c]⟩
  · exact ⟨0, mN rw co, false, Nat.zero_add _, rfl, rfl, by unfold mhd; rw [decide_eq_false c]⟩
theorem pe_X5_hiddenNumber (rw : Int32) (co : Int32) (cl : Int32) (fi : Int32) (st : Int64) (th : Int32) (bd : Nat → Int32) (lf : Nat → Int32) (hf : Nat → Int32) (of : Nat → Int32) (gf : Nat → Int32) (tf : Nat → Int32) (kf : Nat → Int32) (p1 : Int32) (hpre : mok rw co bd ∧ mcur rw co bd hf ∧ vp_in p1 12) : ve_X5_hiddenNumber rw co cl fi st th bd lf hf of gf tf kf p1 (fun (r : Int32) (u : (Nat → Int32) × (Nat → Int32)) => r = (if mhn rw co bd hf p1 then 1 else 0) ∧ u = (bd, hf))  := by
  obtain ⟨hok, hcu, hv⟩ := hpre
  have ez : (1 : Int32) <<< (p1 &&& 31) = zbit p1 := rfl
  unfold ve_X5_hiddenNumber
  rw [ez, cl_0, mfth_cur hcu]
  refine ⟨⟨hok, hv⟩, fun c => ?_, fun c => ⟨fun c2 => ⟨⟨hok, hv, vp_1_10⟩, fun c3 => ?_, fun c3 => ?_⟩, fun c2 => ?_⟩⟩
  · rw [b2i_eq0] at c
    exact ⟨by simp [mhn, c], rfl⟩
  · rw [b2i_eq0] at c3
    exact ⟨by simp [mhn, c3], rfl⟩
  · rw [b2i_ne0] at c c3
    exact ⟨by simp [mhn, c, c2, c3], rfl⟩
  · exact ⟨by simp [mhn, c2], rfl⟩
theorem mon_in {rw co : Int32} {bd hf : Nat → Int32} {c : Int32} : ∀ k, k ≤ 9 → vp_in (mon rw co bd hf c k).1 10
  | 0, _ => vp_0_10
  | k + 1, h => by
    simp only [mon]
    split
    · exact vp_in_nI (by omega) (by decide)
    · exact mon_in k (by omega)
theorem monr_in {rw co : Int32} {bd hf : Nat → Int32} {c : Int32} : vp_in (monr rw co bd hf c) 10 := by
  unfold monr
  split
  · exact mon_in 9 (Nat.le_refl 9)
  · exact vp_0_10
theorem mshn_in {rw co : Int32} {bd hf : Nat → Int32} {c : Int32} (hok : mok rw co bd) : ∀ j, vp_in (mshn rw co bd hf c (mN rw co) j) 10
  | 0 => vp_0_10
  | j + 1 => by
    have hN := mok_N hok
    simp only [mshn]
    split
    · next h =>
      split
      · refine hok.2 _ ?_
        by_cases q : mN rw co = 0
        · omega
        · omega
      · exact mshn_in hok j
    · exact mshn_in hok j
theorem mrun1_in {rw co : Int32} {bd hf : Nat → Int32} {rule c : Int32} (hok : mok rw co bd) : vp_in (mrun1 rw co bd hf rule c) 10 := by
  unfold mrun1
  split
  · exact monr_in
  · split
    · exact mshn_in hok _
    · split
      · exact vp_1_10
      · exact vp_0_10
def I_X5_run_29 (rw : Int32) (co : Int32) (cl : Int32) (fi : Int32) (st : Int64) (th : Int32) (bd : Nat → Int32) (lf : Nat → Int32) (hf : Nat → Int32) (of : Nat → Int32) (gf : Nat → Int32) (tf : Nat → Int32) (kf : Nat → Int32) (p1 : Int32) : Int32 → Int32 → (Nat → Int32) → (Nat → Int32) → Int32 → (Nat → Int32) → Prop := fun x2 th' bd' lf' fi' hf' => (mok rw co bd ∧ mfok rw co bd fi) ∧ min3 p1 0 2 = true ∧ th' = 0 ∧ bd' = bd ∧ lf' = lf ∧ fi' = fi ∧ hf' = mlk rw co bd hf ∧ ∃ k j : Nat, k + j = mN rw co ∧ x2 = nI k ∧ mrunF rw co bd (mlk rw co bd hf) p1 (mN rw co) j = mrunF rw co bd (mlk rw co bd hf) p1 (mN rw co) (mN rw co)
def mu_X5_run_29 (rw : Int32) (co : Int32) (cl : Int32) (fi : Int32) (st : Int64) (th : Int32) (bd : Nat → Int32) (lf : Nat → Int32) (hf : Nat → Int32) (of : Nat → Int32) (gf : Nat → Int32) (tf : Nat → Int32) (kf : Nat → Int32) (p1 : Int32) : Int32 → Int32 → (Nat → Int32) → (Nat → Int32) → Int32 → (Nat → Int32) → Nat := fun x2 th' bd' lf' fi' hf' => mN rw co - x2.toNatClampNeg
theorem pl_X5_run_29 (rw : Int32) (co : Int32) (cl : Int32) (fi : Int32) (st : Int64) (th : Int32) (bd : Nat → Int32) (lf : Nat → Int32) (hf : Nat → Int32) (of : Nat → Int32) (gf : Nat → Int32) (tf : Nat → Int32) (kf : Nat → Int32) (p1 : Int32) (hpre : mok rw co bd ∧ mfok rw co bd fi) : ∀ (x2 : Int32) (th' : Int32) (bd' : Nat → Int32) (lf' : Nat → Int32) (fi' : Int32) (hf' : Nat → Int32), I_X5_run_29 rw co cl fi st th bd lf hf of gf tf kf p1 x2 th' bd' lf' fi' hf' → vs_X5_run_29 rw co cl fi st th bd lf hf of gf tf kf p1 (fun (r : Int32) (u : Int32 × (Nat → Int32) × (Nat → Int32) × Int32 × (Nat → Int32)) => r = mrunR (mrunO rw co bd hf p1) (min3 p1 0 2) ∧ u = (if min3 p1 0 2 then 0 else 1, mrunB (mrunO rw co bd hf p1) bd, mrunL (mrunO rw co bd hf p1) lf fi, mrunI (mrunO rw co bd hf p1) fi, if min3 p1 0 2 then mlk rw co (mrunB (mrunO rw co bd hf p1) bd) hf else hf)) (fun (x29 : Int32) (th9 : Int32) (bd9 : Nat → Int32) (lf9 : Nat → Int32) (fi9 : Int32) (hf9 : Nat → Int32) => I_X5_run_29 rw co cl fi st th bd lf hf of gf tf kf p1 x29 th9 bd9 lf9 fi9 hf9 ∧ mu_X5_run_29 rw co cl fi st th bd lf hf of gf tf kf p1 x29 th9 bd9 lf9 fi9 hf9 < mu_X5_run_29 rw co cl fi st th bd lf hf of gf tf kf p1 x2 th' bd' lf' fi' hf') x2 th' bd' lf' fi' hf' := by
  rintro x2 th' bd' lf' fi' hf' ⟨⟨hok, hfo⟩, hr, rfl, rfl, rfl, rfl, rfl, k, j, hkj, rfl, he⟩
  have hN := mok_N hok
  have hmN : mN rw co = (rw * co).toNatClampNeg := rfl
  refine ⟨fun c => ?_, fun c => ?_⟩
  · rw [cl_le _ (by omega)] at c
    obtain rfl : j = 0 := by omega
    have e : mrunO rw co bd' hf p1 = none := by unfold mrunO; rw [if_pos hr, ← he]; rfl
    exact ⟨by rw [e, hr]; rfl, by rw [e]; simp [mrunB, mrunL, mrunI, hr]⟩
  · rw [cl_le _ (by omega)] at c
    obtain ⟨i, rfl⟩ : ∃ i, j = i + 1 := ⟨j - 1, by omega⟩
    have ek : mN rw co - (i + 1) = k := by omega
    have e1 : (nI k).toNatClampNeg = k := nI_clamp (by omega)
    have hv : vp_in (nI k) 12 := vp_in_nI (by omega) (by decide)
    have hm : mN rw co - (nI k + 1).toNatClampNeg < mN rw co - (nI k).toNatClampNeg := hmu _ (by omega) (by omega)
    simp only [mrunF, ek] at he
    have go : ¬ (bd' k = 0 ∧ 0 < mrun1 rw co bd' (mlk rw co bd' hf) p1 (nI k)) → mrunF rw co bd' (mlk rw co bd' hf) p1 (mN rw co) i = mrunF rw co bd' (mlk rw co bd' hf) p1 (mN rw co) (mN rw co) := fun q => by rw [← he, if_neg q]
    have hit : bd' k = 0 → ∀ y, y = mrun1 rw co bd' (mlk rw co bd' hf) p1 (nI k) → ¬ y ≤ 0 → (mok rw co bd' ∧ vp_in (nI k) 12 ∧ vp_in y 10 ∧ vp_in fi' 12) ∧ ((10 * nI k + y = mrunR (mrunO rw co bd' hf p1) (min3 p1 0 2)) ∧ ((0 : Int32), upd bd' (nI k).toNatClampNeg y, upd lf' fi'.toNatClampNeg (nI k), fi' + 1, mlk rw co (upd bd' (nI k).toNatClampNeg y) (mlk rw co bd' hf)) = ((if min3 p1 0 2 then 0 else 1), mrunB (mrunO rw co bd' hf p1) bd', mrunL (mrunO rw co bd' hf p1) lf' fi', mrunI (mrunO rw co bd' hf p1) fi', if min3 p1 0 2 then mlk rw co (mrunB (mrunO rw co bd' hf p1) bd') hf else hf)) := by
      rintro hz y rfl hy
      have hp : bd' k = 0 ∧ 0 < mrun1 rw co bd' (mlk rw co bd' hf) p1 (nI k) := ⟨hz, Int32.not_le.mp hy⟩
      have e : mrunO rw co bd' hf p1 = some (k, mrun1 rw co bd' (mlk rw co bd' hf) p1 (nI k)) := by unfold mrunO; rw [if_pos hr, ← he, if_pos hp]
      refine ⟨⟨hok, hv, mrun1_in hok, hfo k (by omega) hz⟩, ?_, ?_⟩
      · rw [e, hr]; rfl
      · rw [e, e1, mlk_mlk]; simp [mrunB, mrunL, mrunI, hr]
    rw [e1]
    rw [e1] at hit
    refine ⟨hv, fun c2 => ⟨fun c3 => ⟨⟨hok, mcur_mlk, hv⟩, ?_⟩, fun c3 => ⟨fun c4 => ⟨⟨hok, mcur_mlk, hv⟩, ?_⟩, fun c4 => ⟨⟨hok, mcur_mlk, hv⟩, ?_⟩⟩⟩, fun c2 => ?_⟩
    · intro y hy
      have hy2 : y = mrun1 rw co bd' (mlk rw co bd' hf) p1 (nI k) := by rw [hy]; simp [mrun1, c3]
      refine ⟨fun c5 => ?_, fun c5 => hit c2 y hy2 c5⟩
      rintro y2 rfl
      exact ⟨⟨⟨hok, hfo⟩, hr, rfl, rfl, rfl, rfl, rfl, k + 1, i, by omega, nI_1 k, go (fun q => absurd q.2 (Int32.not_lt.mpr (by rw [← hy2]; exact c5)))⟩, hm⟩
    · intro y hy
      have hy2 : y = mrun1 rw co bd' (mlk rw co bd' hf) p1 (nI k) := by rw [hy]; simp [mrun1, c4]
      refine ⟨fun c5 => ?_, fun c5 => hit c2 y hy2 c5⟩
      rintro y2 rfl
      exact ⟨⟨⟨hok, hfo⟩, hr, rfl, rfl, rfl, rfl, rfl, k + 1, i, by omega, nI_1 k, go (fun q => absurd q.2 (Int32.not_lt.mpr (by rw [← hy2]; exact c5)))⟩, hm⟩
    · intro y hy
      have hy2 : y = mrun1 rw co bd' (mlk rw co bd' hf) p1 (nI k) := by rw [hy]; simp [mrun1, c3, c4]
      refine ⟨fun c5 => ?_, fun c5 => hit c2 y hy2 c5⟩
      rintro y2 rfl
      exact ⟨⟨⟨hok, hfo⟩, hr, rfl, rfl, rfl, rfl, rfl, k + 1, i, by omega, nI_1 k, go (fun q => absurd q.2 (Int32.not_lt.mpr (by rw [← hy2]; exact c5)))⟩, hm⟩
    · rintro y rfl
      exact ⟨⟨⟨hok, hfo⟩, hr, rfl, rfl, rfl, rfl, rfl, k + 1, i, by omega, nI_1 k, go (fun q => c2 q.1)⟩, hm⟩
theorem pe_X5_run (rw : Int32) (co : Int32) (cl : Int32) (fi : Int32) (st : Int64) (th : Int32) (bd : Nat → Int32) (lf : Nat → Int32) (hf : Nat → Int32) (of : Nat → Int32) (gf : Nat → Int32) (tf : Nat → Int32) (kf : Nat → Int32) (p1 : Int32) (hpre : mok rw co bd ∧ mfok rw co bd fi) : ve_X5_run rw co cl fi st th bd lf hf of gf tf kf p1 (fun (r : Int32) (u : Int32 × (Nat → Int32) × (Nat → Int32) × Int32 × (Nat → Int32)) => r = mrunR (mrunO rw co bd hf p1) (min3 p1 0 2) ∧ u = (if min3 p1 0 2 then 0 else 1, mrunB (mrunO rw co bd hf p1) bd, mrunL (mrunO rw co bd hf p1) lf fi, mrunI (mrunO rw co bd hf p1) fi, if min3 p1 0 2 then mlk rw co (mrunB (mrunO rw co bd hf p1) bd) hf else hf)) (I_X5_run_29 rw co cl fi st th bd lf hf of gf tf kf p1) := by
  refine ⟨fun c => ?_, fun c => ?_⟩
  · rw [b2i_eq0] at c
    have e : mrunO rw co bd hf p1 = none := by unfold mrunO; rw [c]; rfl
    exact ⟨by rw [e, c]; rfl, by rw [e, c]; rfl⟩
  · rw [b2i_ne0] at c
    exact ⟨hpre.1, hpre, c, rfl, rfl, rfl, rfl, rfl, 0, mN rw co, Nat.zero_add _, rfl, rfl⟩
theorem pe_X5_filled (rw : Int32) (co : Int32) (cl : Int32) (fi : Int32) (st : Int64) (th : Int32) (bd : Nat → Int32) (lf : Nat → Int32) (hf : Nat → Int32) (of : Nat → Int32) (gf : Nat → Int32) (tf : Nat → Int32) (kf : Nat → Int32) : ve_X5_filled rw co cl fi st th bd lf hf of gf tf kf (fun (r : Int32) (u : Int32) => r = fi ∧ u = (0))  := ⟨rfl, rfl⟩
theorem pe_X5_area (rw : Int32) (co : Int32) (cl : Int32) (fi : Int32) (st : Int64) (th : Int32) (bd : Nat → Int32) (lf : Nat → Int32) (hf : Nat → Int32) (of : Nat → Int32) (gf : Nat → Int32) (tf : Nat → Int32) (kf : Nat → Int32) : ve_X5_area rw co cl fi st th bd lf hf of gf tf kf (fun (r : Int32) (u : Int32) => r = rw * co ∧ u = (0))  := ⟨rfl, rfl⟩
theorem pe_X5_isAsked (rw : Int32) (co : Int32) (cl : Int32) (fi : Int32) (st : Int64) (th : Int32) (bd : Nat → Int32) (lf : Nat → Int32) (hf : Nat → Int32) (of : Nat → Int32) (gf : Nat → Int32) (tf : Nat → Int32) (kf : Nat → Int32) (p1 : Int32) (hpre : mok rw co bd) : ve_X5_isAsked rw co cl fi st th bd lf hf of gf tf kf p1 (fun (r : Int32) (u : (Nat → Int32) × Int32) => r = b2i (mic rw co p1) ∧ u = (mlk rw co bd hf, if mic rw co p1 then 0 else 1))  := by
  refine ⟨hpre, fun c => ?_, fun c => ?_⟩
  · rw [b2i_eq0] at c; exact ⟨by rw [c]; rfl, by rw [c]; rfl⟩
  · rw [b2i_ne0] at c; exact ⟨by rw [c]; rfl, by rw [c]; rfl⟩
theorem pe_X5_at (rw : Int32) (co : Int32) (cl : Int32) (fi : Int32) (st : Int64) (th : Int32) (bd : Nat → Int32) (lf : Nat → Int32) (hf : Nat → Int32) (of : Nat → Int32) (gf : Nat → Int32) (tf : Nat → Int32) (kf : Nat → Int32) (p1 : Int32) (hpre : mok rw co bd) : ve_X5_at rw co cl fi st th bd lf hf of gf tf kf p1 (fun (r : Int32) (u : (Nat → Int32) × Int32) => r = (if mic rw co p1 then bd p1.toNatClampNeg else 0) ∧ u = (mlk rw co bd hf, if mic rw co p1 then 0 else 1))  := by
  refine ⟨hpre, fun c => ?_, fun c => ⟨?_, ?_⟩⟩
  · rw [b2i_eq0] at c; exact ⟨by rw [c]; rfl, rfl⟩
  · rw [b2i_ne0] at c; exact mic_vp hpre c
  · rw [b2i_ne0] at c; exact ⟨by rw [c]; rfl, rfl⟩
theorem pe_X5_isClue (rw : Int32) (co : Int32) (cl : Int32) (fi : Int32) (st : Int64) (th : Int32) (bd : Nat → Int32) (lf : Nat → Int32) (hf : Nat → Int32) (of : Nat → Int32) (gf : Nat → Int32) (tf : Nat → Int32) (kf : Nat → Int32) (p1 : Int32) (hpre : mok rw co bd) : ve_X5_isClue rw co cl fi st th bd lf hf of gf tf kf p1 (fun (r : Int32) (u : (Nat → Int32) × Int32) => r = b2i (mic rw co p1 && mhas cl p1) ∧ u = (mlk rw co bd hf, if mic rw co p1 then 0 else 1))  := by
  refine ⟨hpre, fun c => ?_, fun c => ⟨fun c2 => ?_, fun c2 => ?_⟩⟩
  · rw [b2i_eq0] at c; exact ⟨by rw [c]; rfl, rfl⟩
  · rw [b2i_ne0] at c; rw [b2i_eq0] at c2; exact ⟨by rw [c, c2]; rfl, rfl⟩
  · rw [b2i_ne0] at c c2; exact ⟨by rw [c, c2]; rfl, rfl⟩
theorem pe_X5_size (rw : Int32) (co : Int32) (cl : Int32) (fi : Int32) (st : Int64) (th : Int32) (bd : Nat → Int32) (lf : Nat → Int32) (hf : Nat → Int32) (of : Nat → Int32) (gf : Nat → Int32) (tf : Nat → Int32) (kf : Nat → Int32) (p1 : Int32) (hpre : mok rw co bd) : ve_X5_size rw co cl fi st th bd lf hf of gf tf kf p1 (fun (r : Int32) (u : (Nat → Int32) × Int32) => r = (if mic rw co p1 ∧ 0 < bd p1.toNatClampNeg then mcn (mfo rw co bd (mlk rw co bd hf) p1) 12 else 0) ∧ u = (mlk rw co bd hf, if mic rw co p1 then 0 else 1))  := by
  refine ⟨hpre, fun c => ?_, fun c => ⟨?_, fun c2 => ?_, fun c2 => ⟨?_, ?_⟩⟩⟩
  · rw [b2i_eq0] at c; exact ⟨by simp [c], rfl⟩
  · rw [b2i_ne0] at c; exact mic_vp hpre c
  · exact ⟨by simp [Int32.not_lt.mpr c2], rfl⟩
  · rw [b2i_ne0] at c; exact mic_cw hpre c
  · rw [b2i_ne0] at c; exact ⟨by simp [c, Int32.not_le.mp c2], rfl⟩
theorem pe_X5_room (rw : Int32) (co : Int32) (cl : Int32) (fi : Int32) (st : Int64) (th : Int32) (bd : Nat → Int32) (lf : Nat → Int32) (hf : Nat → Int32) (of : Nat → Int32) (gf : Nat → Int32) (tf : Nat → Int32) (kf : Nat → Int32) (p1 : Int32) (hpre : mok rw co bd) : ve_X5_room rw co cl fi st th bd lf hf of gf tf kf p1 (fun (r : Int32) (u : (Nat → Int32) × Int32) => r = (if mic rw co p1 ∧ 0 < bd p1.toNatClampNeg then mro rw co bd (mlk rw co bd hf) p1 else 0) ∧ u = (mlk rw co bd hf, if mic rw co p1 then 0 else 1))  := by
  refine ⟨hpre, fun c => ?_, fun c => ⟨?_, fun c2 => ?_, fun c2 => ⟨?_, ?_⟩⟩⟩
  · rw [b2i_eq0] at c; exact ⟨by simp [c], rfl⟩
  · rw [b2i_ne0] at c; exact mic_vp hpre c
  · exact ⟨by simp [Int32.not_lt.mpr c2], rfl⟩
  · rw [b2i_ne0] at c; exact mic_cw hpre c
  · rw [b2i_ne0] at c; exact ⟨by simp [c, Int32.not_le.mp c2], rfl⟩
theorem pe_X5_canBe (rw : Int32) (co : Int32) (cl : Int32) (fi : Int32) (st : Int64) (th : Int32) (bd : Nat → Int32) (lf : Nat → Int32) (hf : Nat → Int32) (of : Nat → Int32) (gf : Nat → Int32) (tf : Nat → Int32) (kf : Nat → Int32) (p1 : Int32) (p2 : Int32) (hpre : mok rw co bd) : ve_X5_canBe rw co cl fi st th bd lf hf of gf tf kf p1 p2 (fun (r : Int32) (u : Int32 × (Nat → Int32) × (Nat → Int32)) => r = b2i (mfla rw co p1 p2 && mft rw co bd hf p1 p2) ∧ u = (if mic rw co p1 then (if min3 p2 1 9 then 0 else 2) else 1, bd, if mfla rw co p1 p2 then mfth rw co bd hf p1 else hf))  := by
  refine ⟨fun c => ?_, fun c => ⟨fun c2 => ?_, fun c2 => ⟨⟨hpre, ?_, ?_⟩, fun c3 => ?_, fun c3 => ?_⟩⟩⟩
  · rw [b2i_eq0] at c; exact ⟨by simp [mfla, c, b2i], by simp [mfla, c]⟩
  · rw [b2i_ne0] at c; rw [b2i_eq0] at c2; exact ⟨by simp [mfla, c, c2, b2i], by simp [mfla, c, c2]⟩
  · rw [b2i_ne0] at c; exact mic_vp hpre c
  · rw [b2i_ne0] at c2; exact min19_in c2
  · rw [b2i_ne0] at c c2; rw [b2i_eq0] at c3; exact ⟨by simp [mfla, c, c2, c3, b2i], by simp [mfla, c, c2]⟩
  · rw [b2i_ne0] at c c2 c3; exact ⟨by simp [mfla, c, c2, c3, b2i], by simp [mfla, c, c2]⟩
theorem pe_X5_isHidden (rw : Int32) (co : Int32) (cl : Int32) (fi : Int32) (st : Int64) (th : Int32) (bd : Nat → Int32) (lf : Nat → Int32) (hf : Nat → Int32) (of : Nat → Int32) (gf : Nat → Int32) (tf : Nat → Int32) (kf : Nat → Int32) (p1 : Int32) (hpre : mok rw co bd) : ve_X5_isHidden rw co cl fi st th bd lf hf of gf tf kf p1 (fun (r : Int32) (u : (Nat → Int32) × Int32) => r = b2i (mic rw co p1 && mhd rw co bd (mlk rw co bd hf) p1) ∧ u = (mlk rw co bd hf, if mic rw co p1 then 0 else 1))  := by
  refine ⟨hpre, fun c => ?_, fun c => ⟨⟨hpre, ?_⟩, fun c2 => ?_, fun c2 => ?_⟩⟩
  · rw [b2i_eq0] at c; exact ⟨by simp [c, b2i], rfl⟩
  · rw [b2i_ne0] at c; exact mic_vp hpre c
  · rw [b2i_eq0] at c2; exact ⟨by simp [c2, b2i], rfl⟩
  · rw [b2i_ne0] at c c2; exact ⟨by simp [c, c2, b2i], rfl⟩
theorem pe_X5_shapes (rw : Int32) (co : Int32) (cl : Int32) (fi : Int32) (st : Int64) (th : Int32) (bd : Nat → Int32) (lf : Nat → Int32) (hf : Nat → Int32) (of : Nat → Int32) (gf : Nat → Int32) (tf : Nat → Int32) (kf : Nat → Int32) (p1 : Int32) (hpre : mok rw co bd) : ve_X5_shapes rw co cl fi st th bd lf hf of gf tf kf p1 (fun (r : Int32) (u : (Nat → Int32) × Int32) => r = (if mic rw co p1 ∧ 0 < bd p1.toNatClampNeg then msO rw co bd (mlk rw co bd hf) p1 0 else 0) ∧ u = (mlk rw co bd hf, if mic rw co p1 then 0 else 1))  := by
  refine ⟨hpre, fun c => ?_, fun c => ⟨?_, fun c2 => ?_, fun c2 => ⟨?_, ?_⟩⟩⟩
  · rw [b2i_eq0] at c; exact ⟨by simp [c], rfl⟩
  · rw [b2i_ne0] at c; exact mic_vp hpre c
  · exact ⟨by simp [Int32.not_lt.mpr c2], rfl⟩
  · rw [b2i_ne0] at c; exact mic_cw hpre c
  · rw [b2i_ne0] at c; exact ⟨by simp [c, Int32.not_le.mp c2], rfl⟩
theorem pe_X5_shapesWith (rw : Int32) (co : Int32) (cl : Int32) (fi : Int32) (st : Int64) (th : Int32) (bd : Nat → Int32) (lf : Nat → Int32) (hf : Nat → Int32) (of : Nat → Int32) (gf : Nat → Int32) (tf : Nat → Int32) (kf : Nat → Int32) (p1 : Int32) (p2 : Int32) (hpre : mok rw co bd) : ve_X5_shapesWith rw co cl fi st th bd lf hf of gf tf kf p1 p2 (fun (r : Int32) (u : (Nat → Int32) × Int32) => r = (if (mic rw co p1 ∧ mic rw co p2) ∧ 0 < bd p1.toNatClampNeg then msO rw co bd (mlk rw co bd hf) p1 (zbit p2) else 0) ∧ u = (mlk rw co bd hf, if mic rw co p1 ∧ mic rw co p2 then 0 else 1))  := by
  have ez : (1 : Int32) <<< (p2 &&& 31) = zbit p2 := rfl
  unfold ve_X5_shapesWith
  rw [ez]
  refine ⟨hpre, fun c => ?_, fun c => ⟨fun c1 => ?_, fun c1 => ⟨?_, fun c2 => ?_, fun c2 => ⟨?_, ?_⟩⟩⟩⟩
  · rw [b2i_eq0] at c; exact ⟨by simp [c], by simp [c]⟩
  · rw [b2i_eq0] at c1; exact ⟨by simp [c1], by simp [c1]⟩
  · rw [b2i_ne0] at c; exact mic_vp hpre c
  · rw [b2i_ne0] at c c1; exact ⟨by simp [Int32.not_lt.mpr c2], by simp [c, c1]⟩
  · rw [b2i_ne0] at c; exact mic_cw hpre c
  · rw [b2i_ne0] at c c1; exact ⟨by simp [c, c1, Int32.not_le.mp c2], by simp [c, c1]⟩
def I_X5_isSolved_13 (rw : Int32) (co : Int32) (cl : Int32) (fi : Int32) (st : Int64) (th : Int32) (bd : Nat → Int32) (lf : Nat → Int32) (hf : Nat → Int32) (of : Nat → Int32) (gf : Nat → Int32) (tf : Nat → Int32) (kf : Nat → Int32) : Int32 → Int32 → (Nat → Int32) → Int32 → Prop := fun x1 x2 hf' th' => mok rw co bd ∧ hf' = mlk rw co bd hf ∧ th' = 0 ∧ ∃ (k j : Nat) (b : Bool), k + j = mN rw co ∧ x2 = nI k ∧ x1 = b2i b ∧ (b && mslv rw co bd (mlk rw co bd hf) (mN rw co) j) = mslv rw co bd (mlk rw co bd hf) (mN rw co) (mN rw co)
def mu_X5_isSolved_13 (rw : Int32) (co : Int32) (cl : Int32) (fi : Int32) (st : Int64) (th : Int32) (bd : Nat → Int32) (lf : Nat → Int32) (hf : Nat → Int32) (of : Nat → Int32) (gf : Nat → Int32) (tf : Nat → Int32) (kf : Nat → Int32) : Int32 → Int32 → (Nat → Int32) → Int32 → Nat := fun x1 x2 hf' th' => mN rw co - x2.toNatClampNeg
theorem pl_X5_isSolved_13 (rw : Int32) (co : Int32) (cl : Int32) (fi : Int32) (st : Int64) (th : Int32) (bd : Nat → Int32) (lf : Nat → Int32) (hf : Nat → Int32) (of : Nat → Int32) (gf : Nat → Int32) (tf : Nat → Int32) (kf : Nat → Int32) (hpre : mok rw co bd) : ∀ (x1 : Int32) (x2 : Int32) (hf' : Nat → Int32) (th' : Int32), I_X5_isSolved_13 rw co cl fi st th bd lf hf of gf tf kf x1 x2 hf' th' → vs_X5_isSolved_13 rw co cl fi st th bd lf hf of gf tf kf (fun (r : Int32) (u : (Nat → Int32) × Int32) => r = b2i (mslv rw co bd (mlk rw co bd hf) (mN rw co) (mN rw co)) ∧ u = (mlk rw co bd hf, 0)) (fun (x19 : Int32) (x29 : Int32) (hf9 : Nat → Int32) (th9 : Int32) => I_X5_isSolved_13 rw co cl fi st th bd lf hf of gf tf kf x19 x29 hf9 th9 ∧ mu_X5_isSolved_13 rw co cl fi st th bd lf hf of gf tf kf x19 x29 hf9 th9 < mu_X5_isSolved_13 rw co cl fi st th bd lf hf of gf tf kf x1 x2 hf' th') x1 x2 hf' th' := by
  rintro x1 x2 hf' th' ⟨hok, rfl, rfl, k, j, b, hkj, rfl, rfl, he⟩
  have hN := mok_N hok
  have hmN : mN rw co = (rw * co).toNatClampNeg := rfl
  refine ⟨fun c => ?_, fun c => ?_⟩
  · rw [cl_le _ (by omega)] at c
    obtain rfl : j = 0 := by omega
    refine ⟨b2i_narrow _, ?_, rfl⟩
    rw [← he]; simp [mslv]
  · rw [cl_le _ (by omega)] at c
    obtain ⟨i, rfl⟩ : ∃ i, j = i + 1 := ⟨j - 1, by omega⟩
    have ek : mN rw co - (i + 1) = k := by omega
    have e1 : (nI k).toNatClampNeg = k := nI_clamp (by omega)
    have hv : vp_in (nI k) 12 := vp_in_nI (by omega) (by decide)
    refine ⟨fun c2 => ?_, fun c2 => ?_⟩
    · rw [b2i_eq0] at c2
      subst c2
      exact ⟨b2i_narrow _, by rw [← he]; rfl, rfl⟩
    · rw [b2i_ne0] at c2
      subst c2
      simp only [mslv, ek, Bool.true_and] at he
      rw [e1]
      refine ⟨hv, fun c3 => ?_, fun c3 => ⟨mok_cw hok hv, hv, fun c4 => ?_, fun c4 => ?_⟩⟩
      · rintro y rfl
        exact ⟨⟨hok, rfl, rfl, k + 1, i, false, by omega, nI_1 k, rfl, by rw [← he, decide_eq_false (Int32.not_lt.mpr c3)]; rfl⟩, hmu _ (by omega) (by omega)⟩
      · rintro y rfl
        exact ⟨⟨hok, rfl, rfl, k + 1, i, true, by omega, nI_1 k, rfl, by rw [← he, decide_eq_true (Int32.not_le.mp c3), decide_eq_true c4]; rfl⟩, hmu _ (by omega) (by omega)⟩
      · rintro y rfl
        exact ⟨⟨hok, rfl, rfl, k + 1, i, false, by omega, nI_1 k, rfl, by rw [← he, decide_eq_false c4, Bool.and_false, Bool.false_and]⟩, hmu _ (by omega) (by omega)⟩
theorem pe_X5_isSolved (rw : Int32) (co : Int32) (cl : Int32) (fi : Int32) (st : Int64) (th : Int32) (bd : Nat → Int32) (lf : Nat → Int32) (hf : Nat → Int32) (of : Nat → Int32) (gf : Nat → Int32) (tf : Nat → Int32) (kf : Nat → Int32) (hpre : mok rw co bd) : ve_X5_isSolved rw co cl fi st th bd lf hf of gf tf kf (fun (r : Int32) (u : (Nat → Int32) × Int32) => r = b2i (mslv rw co bd (mlk rw co bd hf) (mN rw co) (mN rw co)) ∧ u = (mlk rw co bd hf, 0)) (I_X5_isSolved_13 rw co cl fi st th bd lf hf of gf tf kf) := ⟨hpre, hpre, rfl, rfl, 0, mN rw co, true, Nat.zero_add _, rfl, rfl, by rw [Bool.true_and]⟩
