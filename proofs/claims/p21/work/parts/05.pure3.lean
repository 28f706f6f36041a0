theorem mic_in {rw co : Int32} {bd : Nat → Int32} (hok : mok rw co bd) {c : Int32} (h : mic rw co c = true) : ∃ k : Nat, k < mN rw co ∧ c = nI k := by
  obtain ⟨hN, e⟩ := mok_N hok
  unfold mic min3 at h
  rw [Bool.and_eq_true] at h
  have h1 := of_decide_eq_true h.1
  have h2 := of_decide_eq_true h.2
  rw [e] at h2
  cases hn : mN rw co with
  | zero =>
    rw [hn] at h2
    have : nI 0 - 1 = (-1 : Int32) := by decide
    rw [this, fx_le] at h2; rw [fx_le] at h1
    have a1 : (-1 : Int32).toInt = -1 := by decide
    have a2 : (0 : Int32).toInt = 0 := by decide
    omega
  | succ n =>
    rw [hn, nI_pred] at h2
    obtain ⟨j, hj, ej⟩ := nI_of2 (M := nI n) (n := n) (nI_toInt (by omega)) (Int32.not_lt.mpr h1) h2
    exact ⟨j, by omega, ej⟩
theorem mic_vp {rw co : Int32} {bd : Nat → Int32} (hok : mok rw co bd) {c : Int32} (h : mic rw co c = true) : vp_in c 12 := by
  obtain ⟨k, hk, rfl⟩ := mic_in hok h
  have := (mok_N hok).1
  exact vp_in_nI (by omega) (by decide)
theorem mic_cw {rw co : Int32} {bd : Nat → Int32} (hok : mok rw co bd) {c : Int32} (h : mic rw co c = true) : mcw bd c := by
  obtain ⟨k, hk, rfl⟩ := mic_in hok h
  have := (mok_N hok).1
  refine ⟨vp_in_nI (by omega) (by decide), ?_⟩
  rw [nI_clamp (by omega)]; exact hok.2 k (by omega)
theorem vp_clamp {x : Int32} {n : Nat} (h : vp_in x n) (hn : n < 2 ^ 31) : x.toNatClampNeg < n := by
  obtain ⟨j, hj, rfl⟩ := vp_in_of h hn
  rw [nI_clamp (by omega)]; exact hj
theorem mok_cw {rw co : Int32} {bd : Nat → Int32} (hok : mok rw co bd) {c : Int32} (h : vp_in c 12) : mcw bd c := ⟨h, hok.2 _ (vp_clamp h (by decide))⟩
theorem min3_in {n : Int32} {a b : Nat} (hb : b < 2 ^ 31) (ha : a ≤ b) (h : min3 n (nI a) (nI b) = true) : ∃ k : Nat, a ≤ k ∧ k ≤ b ∧ n = nI k := by
  unfold min3 at h
  rw [Bool.and_eq_true] at h
  have h1 := of_decide_eq_true h.1
  have h2 := of_decide_eq_true h.2
  rw [fx_le, nI_toInt (by omega)] at h1 h2
  refine ⟨n.toInt.toNat, by omega, by omega, ?_⟩
  rw [← Int32.toInt_inj, nI_toInt (by omega)]; omega
theorem min09_in {n : Int32} (h : min3 n 0 9 = true) : vp_in n 10 := by
  obtain ⟨k, h1, h2, rfl⟩ := min3_in (a := 0) (b := 9) (by decide) (by decide) h
  exact vp_in_nI (by omega) (by decide)
theorem min19_in {n : Int32} (h : min3 n 1 9 = true) : vp_in n 10 := by
  obtain ⟨k, h1, h2, rfl⟩ := min3_in (a := 1) (b := 9) (by decide) (by decide) h
  exact vp_in_nI (by omega) (by decide)
def I_X5_empties_2 (rw : Int32) (co : Int32) (cl : Int32) (fi : Int32) (st : Int64) (th : Int32) (bd : Nat → Int32) (lf : Nat → Int32) (hf : Nat → Int32) (of : Nat → Int32) (gf : Nat → Int32) (tf : Nat → Int32) (kf : Nat → Int32) : Int32 → (Nat → Int32) → Int32 → Prop := fun x1 bd' fi' => mlok lf fi ∧ fi' = fi ∧ ∃ k : Nat, k ≤ fi.toNatClampNeg ∧ x1 = nI k ∧ bd' = mem bd lf k
def mu_X5_empties_2 (rw : Int32) (co : Int32) (cl : Int32) (fi : Int32) (st : Int64) (th : Int32) (bd : Nat → Int32) (lf : Nat → Int32) (hf : Nat → Int32) (of : Nat → Int32) (gf : Nat → Int32) (tf : Nat → Int32) (kf : Nat → Int32) : Int32 → (Nat → Int32) → Int32 → Nat := fun x1 bd' fi' => fi.toNatClampNeg - x1.toNatClampNeg
theorem pl_X5_empties_2 (rw : Int32) (co : Int32) (cl : Int32) (fi : Int32) (st : Int64) (th : Int32) (bd : Nat → Int32) (lf : Nat → Int32) (hf : Nat → Int32) (of : Nat → Int32) (gf : Nat → Int32) (tf : Nat → Int32) (kf : Nat → Int32) (hpre : mlok lf fi) : ∀ (x1 : Int32) (bd' : Nat → Int32) (fi' : Int32), I_X5_empties_2 rw co cl fi st th bd lf hf of gf tf kf x1 bd' fi' → vs_X5_empties_2 rw co cl fi st th bd lf hf of gf tf kf (fun (u : (Nat → Int32) × Int32) => u = (mem bd lf fi.toNatClampNeg, 0)) (fun (x19 : Int32) (bd9 : Nat → Int32) (fi9 : Int32) => I_X5_empties_2 rw co cl fi st th bd lf hf of gf tf kf x19 bd9 fi9 ∧ mu_X5_empties_2 rw co cl fi st th bd lf hf of gf tf kf x19 bd9 fi9 < mu_X5_empties_2 rw co cl fi st th bd lf hf of gf tf kf x1 bd' fi') x1 bd' fi' := by
  rintro x1 bd' fi' ⟨hok, rfl, k, hk, rfl, rfl⟩
  obtain ⟨n, hn, rfl, hl⟩ := hok
  rw [nI_clamp (by omega)] at hk
  refine ⟨fun c => ?_, fun c => ?_⟩
  · have c := k_le (by omega) (by omega) c
    obtain rfl : k = n := by omega
    show (_, _) = (_, _)
    rw [nI_clamp (by omega)]
  · have c := k_nle (by omega) (by omega) c
    refine ⟨vp_in_nI (by omega) (by decide), by rw [nI_clamp (by omega)]; exact hl k c, ?_⟩
    rintro y rfl
    refine ⟨⟨⟨n, hn, rfl, hl⟩, rfl, k + 1, by rw [nI_clamp (by omega)]; omega, nI_1 k, ?_⟩, ?_⟩
    · rw [nI_clamp (by omega)]; rfl
    · show (nI n).toNatClampNeg - _ < (nI n).toNatClampNeg - _
      rw [nI_clamp (n := n) (by omega)]; exact hmu n c (by omega)
theorem pe_X5_empties (rw : Int32) (co : Int32) (cl : Int32) (fi : Int32) (st : Int64) (th : Int32) (bd : Nat → Int32) (lf : Nat → Int32) (hf : Nat → Int32) (of : Nat → Int32) (gf : Nat → Int32) (tf : Nat → Int32) (kf : Nat → Int32) (hpre : mlok lf fi) : ve_X5_empties rw co cl fi st th bd lf hf of gf tf kf (fun (u : (Nat → Int32) × Int32) => u = (mem bd lf fi.toNatClampNeg, 0)) (I_X5_empties_2 rw co cl fi st th bd lf hf of gf tf kf) := ⟨hpre, rfl, 0, Nat.zero_le _, rfl, rfl⟩
def I_X5_lay_52 (rw : Int32) (co : Int32) (cl : Int32) (fi : Int32) (st : Int64) (th : Int32) (bd : Nat → Int32) (lf : Nat → Int32) (hf : Nat → Int32) (of : Nat → Int32) (gf : Nat → Int32) (tf : Nat → Int32) (kf : Nat → Int32) (p1 : Int32) (p2 : Int32) : Int32 → Int32 → Int32 → Int32 → (Nat → Int32) → Int32 → Int32 → Prop := fun x3 th' rw' co' bd' cl' fi' => mlyc p1 p2 = true ∧ th' = 0 ∧ rw' = p1 ∧ co' = p2 ∧ ∃ k : Nat, k ≤ 12 ∧ x3 = nI k ∧ bd' = fun i => if i < k then 0 else bd i
def mu_X5_lay_52 (rw : Int32) (co : Int32) (cl : Int32) (fi : Int32) (st : Int64) (th : Int32) (bd : Nat → Int32) (lf : Nat → Int32) (hf : Nat → Int32) (of : Nat → Int32) (gf : Nat → Int32) (tf : Nat → Int32) (kf : Nat → Int32) (p1 : Int32) (p2 : Int32) : Int32 → Int32 → Int32 → Int32 → (Nat → Int32) → Int32 → Int32 → Nat := fun x3 th' rw' co' bd' cl' fi' => 12 - x3.toNatClampNeg
theorem pl_X5_lay_52 (rw : Int32) (co : Int32) (cl : Int32) (fi : Int32) (st : Int64) (th : Int32) (bd : Nat → Int32) (lf : Nat → Int32) (hf : Nat → Int32) (of : Nat → Int32) (gf : Nat → Int32) (tf : Nat → Int32) (kf : Nat → Int32) (p1 : Int32) (p2 : Int32) : ∀ (x3 : Int32) (th' : Int32) (rw' : Int32) (co' : Int32) (bd' : Nat → Int32) (cl' : Int32) (fi' : Int32), I_X5_lay_52 rw co cl fi st th bd lf hf of gf tf kf p1 p2 x3 th' rw' co' bd' cl' fi' → vs_X5_lay_52 rw co cl fi st th bd lf hf of gf tf kf p1 p2 (fun (r : Int32) (u : Int32 × Int32 × Int32 × (Nat → Int32) × Int32 × Int32) => r = (if mlyc p1 p2 then p1 * p2 else 0) ∧ u = (if mlyc p1 p2 then 0 else 1, if mlyc p1 p2 then p1 else rw, if mlyc p1 p2 then p2 else co, if mlyc p1 p2 then mz12 bd else bd, if mlyc p1 p2 then 0 else cl, if mlyc p1 p2 then 0 else fi)) (fun (x39 : Int32) (th9 : Int32) (rw9 : Int32) (co9 : Int32) (bd9 : Nat → Int32) (cl9 : Int32) (fi9 : Int32) => I_X5_lay_52 rw co cl fi st th bd lf hf of gf tf kf p1 p2 x39 th9 rw9 co9 bd9 cl9 fi9 ∧ mu_X5_lay_52 rw co cl fi st th bd lf hf of gf tf kf p1 p2 x39 th9 rw9 co9 bd9 cl9 fi9 < mu_X5_lay_52 rw co cl fi st th bd lf hf of gf tf kf p1 p2 x3 th' rw' co' bd' cl' fi') x3 th' rw' co' bd' cl' fi' := by
  rintro x3 th' rw' co' bd' cl' fi' ⟨hc, rfl, rfl, rfl, k, hk, rfl, ef⟩
  refine ⟨fun c => ?_, fun c => ?_⟩
  · have c := k_le (a := 12) (by decide) (by omega) c
    obtain rfl : k = 12 := by omega
    have : bd' = mz12 bd := ef
    refine ⟨?_, ?_⟩
    · simp [hc]
    · simp [hc, this]
  · have c := k_nle (a := 12) (by decide) (by omega) c
    refine ⟨vp_in_nI (by omega) (by decide), ?_⟩
    rintro y rfl
    refine ⟨⟨hc, rfl, rfl, rfl, k + 1, by omega, nI_1 k, ?_⟩, hmu 12 c (by decide)⟩
    rw [nI_clamp (by omega)]
    exact upd_step ef rfl
theorem pe_X5_lay (rw : Int32) (co : Int32) (cl : Int32) (fi : Int32) (st : Int64) (th : Int32) (bd : Nat → Int32) (lf : Nat → Int32) (hf : Nat → Int32) (of : Nat → Int32) (gf : Nat → Int32) (tf : Nat → Int32) (kf : Nat → Int32) (p1 : Int32) (p2 : Int32) : ve_X5_lay rw co cl fi st th bd lf hf of gf tf kf p1 p2 (fun (r : Int32) (u : Int32 × Int32 × Int32 × (Nat → Int32) × Int32 × Int32) => r = (if mlyc p1 p2 then p1 * p2 else 0) ∧ u = (if mlyc p1 p2 then 0 else 1, if mlyc p1 p2 then p1 else rw, if mlyc p1 p2 then p2 else co, if mlyc p1 p2 then mz12 bd else bd, if mlyc p1 p2 then 0 else cl, if mlyc p1 p2 then 0 else fi)) (I_X5_lay_52 rw co cl fi st th bd lf hf of gf tf kf p1 p2) := by
  refine ⟨fun c => ?_, fun c => ⟨fun c2 => ?_, fun c2 => ⟨fun c3 => ?_, fun c3 => ?_⟩⟩⟩
  · rw [b2i_eq0] at c
    have hc : mlyc p1 p2 = false := by unfold mlyc; rw [c]; rfl
    exact ⟨by simp [hc], by simp [hc]⟩
  · rw [b2i_eq0] at c2
    have hc : mlyc p1 p2 = false := by unfold mlyc; rw [c2, Bool.and_false]; rfl
    exact ⟨by simp [hc], by simp [hc]⟩
  · have hc : mlyc p1 p2 = false := by unfold mlyc; rw [decide_eq_false (Int32.not_le.mpr c3), Bool.and_false]
    exact ⟨by simp [hc], by simp [hc]⟩
  · rw [b2i_ne0] at c c2
    have hc : mlyc p1 p2 = true := by unfold mlyc; rw [c, c2, decide_eq_true (Int32.not_lt.mp c3)]; rfl
    exact ⟨hc, rfl, rfl, rfl, 0, by decide, rfl, by funext i; simp⟩
theorem mok_mrs {rw co : Int32} {bd : Nat → Int32} (h : mok rw co bd) {cl c n : Int32} (hn : vp_in n 10) : mok rw co (mrs rw co bd cl c n) := by
  refine ⟨h.1, fun k hk => ?_⟩
  unfold mrs
  split
  · split
    · exact hn
    · split
      · exact h.2 k hk
      · exact vp_0_10
  · exact h.2 k hk
def I_X5_areSound_2 (rw : Int32) (co : Int32) (cl : Int32) (fi : Int32) (st : Int64) (th : Int32) (bd : Nat → Int32) (lf : Nat → Int32) (hf : Nat → Int32) (of : Nat → Int32) (gf : Nat → Int32) (tf : Nat → Int32) (kf : Nat → Int32) (p1 : Int32) (p2 : Int32) : Int32 → (Nat → Int32) → (Nat → Int32) → (Nat → Int32) → Prop := fun x3 bd' kf' hf' => (mok rw co bd ∧ vp_in p2 10) ∧ hf' = hf ∧ ∃ k : Nat, k ≤ mN rw co ∧ x3 = nI k ∧ (bd' = fun i => if i < k then mrs rw co bd cl p1 p2 i else bd i) ∧ kf' = fun i => if i < k then mkp rw co bd kf i else kf i
def mu_X5_areSound_2 (rw : Int32) (co : Int32) (cl : Int32) (fi : Int32) (st : Int64) (th : Int32) (bd : Nat → Int32) (lf : Nat → Int32) (hf : Nat → Int32) (of : Nat → Int32) (gf : Nat → Int32) (tf : Nat → Int32) (kf : Nat → Int32) (p1 : Int32) (p2 : Int32) : Int32 → (Nat → Int32) → (Nat → Int32) → (Nat → Int32) → Nat := fun x3 bd' kf' hf' => mN rw co - x3.toNatClampNeg
def I_X5_areSound_72 (rw : Int32) (co : Int32) (cl : Int32) (fi : Int32) (st : Int64) (th : Int32) (bd : Nat → Int32) (lf : Nat → Int32) (hf : Nat → Int32) (of : Nat → Int32) (gf : Nat → Int32) (tf : Nat → Int32) (kf : Nat → Int32) (p1 : Int32) (p2 : Int32) : Int32 → Int32 → (Nat → Int32) → (Nat → Int32) → (Nat → Int32) → Prop := fun x3 x4 bd' kf' hf' => (mok rw co bd ∧ vp_in p2 10) ∧ x3 = b2i (mas rw co bd hf cl p1 p2) ∧ kf' = mkp rw co bd kf ∧ hf' = mlk rw co (mrs rw co bd cl p1 p2) hf ∧ ∃ k : Nat, k ≤ mN rw co ∧ x4 = nI k ∧ bd' = fun i => if i < k then bd i else mrs rw co bd cl p1 p2 i
def mu_X5_areSound_72 (rw : Int32) (co : Int32) (cl : Int32) (fi : Int32) (st : Int64) (th : Int32) (bd : Nat → Int32) (lf : Nat → Int32) (hf : Nat → Int32) (of : Nat → Int32) (gf : Nat → Int32) (tf : Nat → Int32) (kf : Nat → Int32) (p1 : Int32) (p2 : Int32) : Int32 → Int32 → (Nat → Int32) → (Nat → Int32) → (Nat → Int32) → Nat := fun x3 x4 bd' kf' hf' => mN rw co - x4.toNatClampNeg
theorem pl_X5_areSound_2 (rw : Int32) (co : Int32) (cl : Int32) (fi : Int32) (st : Int64) (th : Int32) (bd : Nat → Int32) (lf : Nat → Int32) (hf : Nat → Int32) (of : Nat → Int32) (gf : Nat → Int32) (tf : Nat → Int32) (kf : Nat → Int32) (p1 : Int32) (p2 : Int32) (hpre : mok rw co bd ∧ vp_in p2 10) : ∀ (x3 : Int32) (bd' : Nat → Int32) (kf' : Nat → Int32) (hf' : Nat → Int32), I_X5_areSound_2 rw co cl fi st th bd lf hf of gf tf kf p1 p2 x3 bd' kf' hf' → vs_X5_areSound_2 rw co cl fi st th bd lf hf of gf tf kf p1 p2 (fun (r : Int32) (u : (Nat → Int32) × (Nat → Int32) × (Nat → Int32)) => r = b2i (mas rw co bd hf cl p1 p2) ∧ u = (bd, mkp rw co bd kf, mlk rw co (mrs rw co bd cl p1 p2) hf)) (fun (x39 : Int32) (bd9 : Nat → Int32) (kf9 : Nat → Int32) (hf9 : Nat → Int32) => I_X5_areSound_2 rw co cl fi st th bd lf hf of gf tf kf p1 p2 x39 bd9 kf9 hf9 ∧ mu_X5_areSound_2 rw co cl fi st th bd lf hf of gf tf kf p1 p2 x39 bd9 kf9 hf9 < mu_X5_areSound_2 rw co cl fi st th bd lf hf of gf tf kf p1 p2 x3 bd' kf' hf') (I_X5_areSound_72 rw co cl fi st th bd lf hf of gf tf kf p1 p2) x3 bd' kf' hf' := by
  rintro x3 bd' kf' hf' ⟨hp, rfl, k, hk, rfl, e1, e2⟩
  have hN := mok_N hp.1
  have hmN : mN rw co = (rw * co).toNatClampNeg := rfl
  refine ⟨fun c => ?_, fun c => ?_⟩
  · rw [cl_le _ (by omega)] at c
    obtain rfl : k = mN rw co := by omega
    have eb : bd' = mrs rw co bd cl p1 p2 := upd_all e1 (fun i hi => by simp [mrs, hi])
    have ek : kf' = mkp rw co bd kf := upd_all e2 (fun i hi => by simp [mkp, hi])
    rw [eb, ek]
    refine ⟨mok_mrs hp.1 hp.2, ?_⟩
    rintro y rfl
    exact ⟨hp, rfl, rfl, rfl, 0, Nat.zero_le _, rfl, by funext i; simp⟩
  · rw [cl_le _ (by omega)] at c
    have c : k < mN rw co := by omega
    have hv : vp_in (nI k) 12 := vp_in_nI (by omega) (by decide)
    have ec : (nI k).toNatClampNeg = k := nI_clamp (by omega)
    have eb : bd' k = bd k := by rw [e1]; simp
    have hk2 : upd kf' k (bd' k) = fun i => if i < k + 1 then mkp rw co bd kf i else kf i := upd_step e2 (by rw [eb]; simp [mkp, c])
    rw [ec]
    refine ⟨hv, hv, fun c2 => ⟨hv, ?_⟩, fun c2 => ⟨fun c3 => ⟨hv, ?_⟩, fun c3 => ⟨hv, hv, ?_⟩⟩⟩
    · rintro y rfl
      exact ⟨⟨hp, rfl, k + 1, c, nI_1 k, upd_step e1 (by simp [mrs, c, c2]), hk2⟩, hmu _ c (by omega)⟩
    · rintro y rfl
      rw [b2i_eq0] at c3
      exact ⟨⟨hp, rfl, k + 1, c, nI_1 k, upd_step e1 (by simp [mrs, c, c2, c3]), hk2⟩, hmu _ c (by omega)⟩
    · rintro y rfl
      rw [b2i_ne0] at c3
      exact ⟨⟨hp, rfl, k + 1, c, nI_1 k, upd_step e1 (by rw [eb]; simp [mrs, c, c2, c3]), hk2⟩, hmu _ c (by omega)⟩
theorem pl_X5_areSound_72 (rw : Int32) (co : Int32) (cl : Int32) (fi : Int32) (st : Int64) (th : Int32) (bd : Nat → Int32) (lf : Nat → Int32) (hf : Nat → Int32) (of : Nat → Int32) (gf : Nat → Int32) (tf : Nat → Int32) (kf : Nat → Int32) (p1 : Int32) (p2 : Int32) (hpre : mok rw co bd ∧ vp_in p2 10) : ∀ (x3 : Int32) (x4 : Int32) (bd' : Nat → Int32) (kf' : Nat → Int32) (hf' : Nat → Int32), I_X5_areSound_72 rw co cl fi st th bd lf hf of gf tf kf p1 p2 x3 x4 bd' kf' hf' → vs_X5_areSound_72 rw co cl fi st th bd lf hf of gf tf kf p1 p2 (fun (r : Int32) (u : (Nat → Int32) × (Nat → Int32) × (Nat → Int32)) => r = b2i (mas rw co bd hf cl p1 p2) ∧ u = (bd, mkp rw co bd kf, mlk rw co (mrs rw co bd cl p1 p2) hf)) (I_X5_areSound_2 rw co cl fi st th bd lf hf of gf tf kf p1 p2) (fun (x39 : Int32) (x49 : Int32) (bd9 : Nat → Int32) (kf9 : Nat → Int32) (hf9 : Nat → Int32) => I_X5_areSound_72 rw co cl fi st th bd lf hf of gf tf kf p1 p2 x39 x49 bd9 kf9 hf9 ∧ mu_X5_areSound_72 rw co cl fi st th bd lf hf of gf tf kf p1 p2 x39 x49 bd9 kf9 hf9 < mu_X5_areSound_72 rw co cl fi st th bd lf hf of gf tf kf p1 p2 x3 x4 bd' kf' hf') x3 x4 bd' kf' hf' := by
  rintro x3 x4 bd' kf' hf' ⟨hp, rfl, rfl, rfl, k, hk, rfl, e1⟩
  have hN := mok_N hp.1
  have hmN : mN rw co = (rw * co).toNatClampNeg := rfl
  refine ⟨fun c => ?_, fun c => ?_⟩
  · rw [cl_le _ (by omega)] at c
    obtain rfl : k = mN rw co := by omega
    refine ⟨b2i_narrow _, rfl, ?_⟩
    have eb : bd' = bd := by
      funext i
      rw [e1]
      by_cases q : i < mN rw co
      · simp [q]
      · simp [q, mrs]
    rw [eb]
  · rw [cl_le _ (by omega)] at c
    have c : k < mN rw co := by omega
    have hv : vp_in (nI k) 12 := vp_in_nI (by omega) (by decide)
    rw [nI_clamp (by omega)]
    refine ⟨hv, hv, ?_⟩
    rintro y rfl
    exact ⟨⟨hp, rfl, rfl, rfl, k + 1, c, nI_1 k, upd_step e1 (by simp [mkp, c])⟩, hmu _ c (by omega)⟩
theorem pe_X5_areSound (rw : Int32) (co : Int32) (cl : Int32) (fi : Int32) (st : Int64) (th : Int32) (bd : Nat → Int32) (lf : Nat → Int32) (hf : Nat → Int32) (of : Nat → Int32) (gf : Nat → Int32) (tf : Nat → Int32) (kf : Nat → Int32) (p1 : Int32) (p2 : Int32) (hpre : mok rw co bd ∧ vp_in p2 10) : ve_X5_areSound rw co cl fi st th bd lf hf of gf tf kf p1 p2 (fun (r : Int32) (u : (Nat → Int32) × (Nat → Int32) × (Nat → Int32)) => r = b2i (mas rw co bd hf cl p1 p2) ∧ u = (bd, mkp rw co bd kf, mlk rw co (mrs rw co bd cl p1 p2) hf)) (I_X5_areSound_2 rw co cl fi st th bd lf hf of gf tf kf p1 p2) (I_X5_areSound_72 rw co cl fi st th bd lf hf of gf tf kf p1 p2) := ⟨hpre, rfl, 0, Nat.zero_le _, rfl, by funext i; simp, by funext i; simp⟩
theorem pe_X5_clue (rw : Int32) (co : Int32) (cl : Int32) (fi : Int32) (st : Int64) (th : Int32) (bd : Nat → Int32) (lf : Nat → Int32) (hf : Nat → Int32) (of : Nat → Int32) (gf : Nat → Int32) (tf : Nat → Int32) (kf : Nat → Int32) (p1 : Int32) (p2 : Int32) (hpre : mok rw co bd ∧ mlok lf fi) : ve_X5_clue rw co cl fi st th bd lf hf of gf tf kf p1 p2 (fun (r : Int32) (u : Int32 × (Nat → Int32) × Int32 × Int32 × (Nat → Int32) × (Nat → Int32)) => r = (if mclt rw co bd hf cl p1 p2 = 0 then (if mhas cl p1 then mem bd lf fi.toNatClampNeg p1.toNatClampNeg else 0) else 0) ∧ u = (mclt rw co bd hf cl p1 p2, if mclt rw co bd hf cl p1 p2 = 0 then upd (mem bd lf fi.toNatClampNeg) p1.toNatClampNeg p2 else bd, if mclt rw co bd hf cl p1 p2 = 0 then mclc cl p1 p2 else cl, if mclt rw co bd hf cl p1 p2 = 0 then 0 else fi, if mcla rw co p1 p2 then mkp rw co bd kf else kf, if mcla rw co p1 p2 then mlk rw co (mrs rw co bd cl p1 p2) hf else hf))  := by
  obtain ⟨hok, hl⟩ := hpre
  rintro y rfl
  refine ⟨fun c => ?_, fun c => ⟨fun c2 => ?_, fun c2 => ⟨⟨hok, ?_⟩, fun c3 => ?_, fun c3 => ⟨hl, fun c4 => ⟨?_, fun c5 => ?_, fun c5 => ?_⟩, fun c4 => ⟨?_, ?_⟩⟩⟩⟩⟩
  · rw [b2i_eq0] at c
    exact ⟨by simp [mclt, c], by simp [mclt, mcla, c]⟩
  · rw [b2i_ne0] at c
    rw [b2i_eq0] at c2
    exact ⟨by simp [mclt, c, c2], by simp [mclt, mcla, c, c2]⟩
  · rw [b2i_ne0] at c2; exact min09_in c2
  · rw [b2i_ne0] at c c2
    rw [b2i_eq0] at c3
    exact ⟨by simp [mclt, c, c2, c3], by simp [mclt, mcla, c, c2, c3]⟩
  · rw [b2i_ne0] at c; exact mic_vp hok c
  · rw [b2i_ne0] at c c2 c3
    rw [b2i_eq0] at c4
    refine ⟨by simp [mclt, c, c2, c3, c4], ?_⟩
    have h9 : ¬ (0 : Int32) < p2 := Int32.not_lt.mpr c5
    simp [mclt, mcla, c, c2, c3, mclc, h9, zbit]
  · rw [b2i_ne0] at c c2 c3
    rw [b2i_eq0] at c4
    refine ⟨by simp [mclt, c, c2, c3, c4], ?_⟩
    have h9 : (0 : Int32) < p2 := Int32.not_le.mp c5
    simp [mclt, mcla, c, c2, c3, mclc, h9, zbit]
  · rw [b2i_ne0] at c; exact mic_vp hok c
  · rintro y rfl
    have hv : vp_in p1 12 := by rw [b2i_ne0] at c; exact mic_vp hok c
    rw [b2i_ne0] at c c2 c3 c4
    refine ⟨hv, fun c5 => ⟨by simp [mclt, c, c2, c3, c4], ?_⟩, fun c5 => ⟨by simp [mclt, c, c2, c3, c4], ?_⟩⟩
    · have h9 : ¬ (0 : Int32) < p2 := Int32.not_lt.mpr c5
      simp [mclt, mcla, c, c2, c3, mclc, h9, zbit]
    · have h9 : (0 : Int32) < p2 := Int32.not_le.mp c5
      simp [mclt, mcla, c, c2, c3, mclc, h9, zbit]
theorem pe_X5_back (rw : Int32) (co : Int32) (cl : Int32) (fi : Int32) (st : Int64) (th : Int32) (bd : Nat → Int32) (lf : Nat → Int32) (hf : Nat → Int32) (of : Nat → Int32) (gf : Nat → Int32) (tf : Nat → Int32) (kf : Nat → Int32) (p1 : Int32) (hpre : 0 < p1 → vp_in (p1 - 1) 12 ∧ vp_in (of (p1 - 1).toNatClampNeg) 12) : ve_X5_back rw co cl fi st th bd lf hf of gf tf kf p1 (fun (r : Int32) (u : (Nat → Int32)) => r = p1 - 1 ∧ u = (if 0 < p1 then upd bd (of (p1 - 1).toNatClampNeg).toNatClampNeg 0 else bd))  := by
  refine ⟨fun c => ⟨rfl, ?_⟩, fun c => ?_⟩
  · have h9 : ¬ (0 : Int32) < p1 := Int32.not_lt.mpr c
    simp [h9]
  · have h9 : (0 : Int32) < p1 := Int32.not_le.mp c
    exact ⟨(hpre h9).1, (hpre h9).2, rfl, by simp [h9]⟩
def I_X5_clears_2 (rw : Int32) (co : Int32) (cl : Int32) (fi : Int32) (st : Int64) (th : Int32) (bd : Nat → Int32) (lf : Nat → Int32) (hf : Nat → Int32) (of : Nat → Int32) (gf : Nat → Int32) (tf : Nat → Int32) (kf : Nat → Int32) (p1 : Int32) : Int32 → (Nat → Int32) → Prop := fun x2 bd' => mlok of p1 ∧ ∃ k : Nat, k ≤ p1.toNatClampNeg ∧ x2 = nI k ∧ bd' = mem bd of k
def mu_X5_clears_2 (rw : Int32) (co : Int32) (cl : Int32) (fi : Int32) (st : Int64) (th : Int32) (bd : Nat → Int32) (lf : Nat → Int32) (hf : Nat → Int32) (of : Nat → Int32) (gf : Nat → Int32) (tf : Nat → Int32) (kf : Nat → Int32) (p1 : Int32) : Int32 → (Nat → Int32) → Nat := fun x2 bd' => p1.toNatClampNeg - x2.toNatClampNeg
theorem pl_X5_clears_2 (rw : Int32) (co : Int32) (cl : Int32) (fi : Int32) (st : Int64) (th : Int32) (bd : Nat → Int32) (lf : Nat → Int32) (hf : Nat → Int32) (of : Nat → Int32) (gf : Nat → Int32) (tf : Nat → Int32) (kf : Nat → Int32) (p1 : Int32) (hpre : mlok of p1) : ∀ (x2 : Int32) (bd' : Nat → Int32), I_X5_clears_2 rw co cl fi st th bd lf hf of gf tf kf p1 x2 bd' → vs_X5_clears_2 rw co cl fi st th bd lf hf of gf tf kf p1 (fun (r : Int32) (u : (Nat → Int32)) => r = (-1) ∧ u = (mem bd of p1.toNatClampNeg)) (fun (x29 : Int32) (bd9 : Nat → Int32) => I_X5_clears_2 rw co cl fi st th bd lf hf of gf tf kf p1 x29 bd9 ∧ mu_X5_clears_2 rw co cl fi st th bd lf hf of gf tf kf p1 x29 bd9 < mu_X5_clears_2 rw co cl fi st th bd lf hf of gf tf kf p1 x2 bd') x2 bd' := by
  rintro x2 bd' ⟨hok, k, hk, rfl, rfl⟩
  obtain ⟨n, hn, rfl, hl⟩ := hok
  rw [nI_clamp (by omega)] at hk
  refine ⟨fun c => ?_, fun c => ?_⟩
  · have c := k_le (by omega) (by omega) c
    obtain rfl : k = n := by omega
    refine ⟨rfl, ?_⟩
    rw [nI_clamp (by omega)]
  · have c := k_nle (by omega) (by omega) c
    refine ⟨vp_in_nI (by omega) (by decide), by rw [nI_clamp (by omega)]; exact hl k c, ?_⟩
    rintro y rfl
    refine ⟨⟨⟨n, hn, rfl, hl⟩, k + 1, by rw [nI_clamp (by omega)]; omega, nI_1 k, ?_⟩, ?_⟩
    · rw [nI_clamp (by omega)]; rfl
    · show (nI n).toNatClampNeg - _ < (nI n).toNatClampNeg - _
      rw [nI_clamp (n := n) (by omega)]; exact hmu n c (by omega)
theorem pe_X5_clears (rw : Int32) (co : Int32) (cl : Int32) (fi : Int32) (st : Int64) (th : Int32) (bd : Nat → Int32) (lf : Nat → Int32) (hf : Nat → Int32) (of : Nat → Int32) (gf : Nat → Int32) (tf : Nat → Int32) (kf : Nat → Int32) (p1 : Int32) (hpre : mlok of p1) : ve_X5_clears rw co cl fi st th bd lf hf of gf tf kf p1 (fun (r : Int32) (u : (Nat → Int32)) => r = (-1) ∧ u = (mem bd of p1.toNatClampNeg)) (I_X5_clears_2 rw co cl fi st th bd lf hf of gf tf kf p1) := ⟨hpre, 0, Nat.zero_le _, rfl, rfl⟩
theorem pe_X5_draw (rw : Int32) (co : Int32) (cl : Int32) (fi : Int32) (st : Int64) (th : Int32) (bd : Nat → Int32) (lf : Nat → Int32) (hf : Nat → Int32) (of : Nat → Int32) (gf : Nat → Int32) (tf : Nat → Int32) (kf : Nat → Int32) : ve_X5_draw rw co cl fi st th bd lf hf of gf tf kf (fun (r : Int32) (u : Int64) => r = mdi (mdr st) ∧ u = (mdr st))  := ⟨rfl, rfl⟩
theorem pe_X5_puts (rw : Int32) (co : Int32) (cl : Int32) (fi : Int32) (st : Int64) (th : Int32) (bd : Nat → Int32) (lf : Nat → Int32) (hf : Nat → Int32) (of : Nat → Int32) (gf : Nat → Int32) (tf : Nat → Int32) (kf : Nat → Int32) (p1 : Int32) (p2 : Int32) (hpre : mok rw co bd ∧ vp_in p1 12 ∧ vp_in p2 10 ∧ vp_in fi 12) : ve_X5_puts rw co cl fi st th bd lf hf of gf tf kf p1 p2 (fun (u : (Nat → Int32) × (Nat → Int32) × Int32 × (Nat → Int32)) => u = (upd bd p1.toNatClampNeg p2, upd lf fi.toNatClampNeg p1, fi + 1, mlk rw co (upd bd p1.toNatClampNeg p2) hf))  := ⟨hpre.2.1, hpre.2.2.2, mok_upd hpre.1 hpre.2.2.1, rfl⟩
theorem pe_X5_fill (rw : Int32) (co : Int32) (cl : Int32) (fi : Int32) (st : Int64) (th : Int32) (bd : Nat → Int32) (lf : Nat → Int32) (hf : Nat → Int32) (of : Nat → Int32) (gf : Nat → Int32) (tf : Nat → Int32) (kf : Nat → Int32) (p1 : Int32) (p2 : Int32) (hpre : mok rw co bd ∧ mfok rw co bd fi) : ve_X5_fill rw co cl fi st th bd lf hf of gf tf kf p1 p2 (fun (r : Int32) (u : Int32 × (Nat → Int32) × (Nat → Int32) × Int32 × (Nat → Int32)) => r = (if mflt rw co bd hf p1 p2 = 0 then mcn (mfo rw co (upd bd p1.toNatClampNeg p2) (mlk rw co (upd bd p1.toNatClampNeg p2) (mfth rw co bd hf p1)) p1) 12 else 0) ∧ u = (mflt rw co bd hf p1 p2, if mflt rw co bd hf p1 p2 = 0 then (upd bd p1.toNatClampNeg p2) else bd, if mflt rw co bd hf p1 p2 = 0 then upd lf fi.toNatClampNeg p1 else lf, if mflt rw co bd hf p1 p2 = 0 then fi + 1 else fi, if mflt rw co bd hf p1 p2 = 0 then (mlk rw co (upd bd p1.toNatClampNeg p2) (mfth rw co bd hf p1)) else if mfla rw co p1 p2 then mfth rw co bd hf p1 else hf))  := by
  obtain ⟨hok, hfo⟩ := hpre
  refine ⟨fun c => ?_, fun c => ⟨fun c2 => ?_, fun c2 => ?_⟩⟩
  · rw [b2i_eq0] at c
    exact ⟨by simp [mflt, c], by simp [mflt, mfla, c]⟩
  · rw [b2i_ne0] at c
    rw [b2i_eq0] at c2
    exact ⟨by simp [mflt, c, c2], by simp [mflt, mfla, c, c2]⟩
  · rw [b2i_ne0] at c c2
    have hv := mic_vp hok c
    have hn := min19_in c2
    refine ⟨⟨hok, hv, hn⟩, fun c3 => ?_, fun c3 => ?_⟩
    · rw [b2i_eq0] at c3
      exact ⟨by simp [mflt, c, c2, c3], by simp [mflt, mfla, c, c2, c3]⟩
    · rw [b2i_ne0] at c3
      refine ⟨⟨hok, hv, hn, ?_⟩, mok_cw (mok_upd hok hn) hv, by simp [mflt, c, c2, c3], by simp [mflt, c, c2, c3]⟩
      obtain ⟨k, hk, rfl⟩ := mic_in hok c
      have hN := mok_N hok
      refine hfo k hk ?_
      unfold mft at c3
      rw [Bool.and_eq_true] at c3
      have := of_decide_eq_true c3.1
      rwa [nI_clamp (by omega)] at this
theorem pe_X5_undo (rw : Int32) (co : Int32) (cl : Int32) (fi : Int32) (st : Int64) (th : Int32) (bd : Nat → Int32) (lf : Nat → Int32) (hf : Nat → Int32) (of : Nat → Int32) (gf : Nat → Int32) (tf : Nat → Int32) (kf : Nat → Int32) (hpre : mlok lf fi) : ve_X5_undo rw co cl fi st th bd lf hf of gf tf kf (fun (r : Int32) (u : Int32 × Int32 × (Nat → Int32)) => r = (if fi = 0 then 0 else lf (fi - 1).toNatClampNeg) ∧ u = (if fi = 0 then 1 else 0, if fi = 0 then fi else fi - 1, if fi = 0 then bd else upd bd (lf (fi - 1).toNatClampNeg).toNatClampNeg 0))  := by
  obtain ⟨n, hn, rfl, hl⟩ := hpre
  refine ⟨fun c => ?_, fun c => ?_⟩
  · exact ⟨by simp [c], by simp [c]⟩
  · cases n with
    | zero => exact absurd rfl c
    | succ n =>
      have e : nI (n + 1) - 1 = nI n := nI_pred n
      have hv : vp_in (nI n) 12 := vp_in_nI (by omega) (by decide)
      have ec : (nI n).toNatClampNeg = n := nI_clamp (by omega)
      rw [e, ec]
      refine ⟨hv, hl n (by omega), hv, by simp [c], by simp [c]⟩
theorem cl_0 : (0 : Int32).toNatClampNeg = 0 := by decide
theorem pe_X5_isShape (rw : Int32) (co : Int32) (cl : Int32) (fi : Int32) (st : Int64) (th : Int32) (bd : Nat → Int32) (lf : Nat → Int32) (hf : Nat → Int32) (of : Nat → Int32) (gf : Nat → Int32) (tf : Nat → Int32) (kf : Nat → Int32) (p1 : Int32) (p2 : Int32) (hpre : mcw bd p2) : ve_X5_isShape rw co cl fi st th bd lf hf of gf tf kf p1 p2 (fun (r : Int32) (u : Unit) => r = b2i (mish rw co bd hf p1 p2))  := by
  obtain ⟨hv, hb⟩ := hpre
  refine ⟨hv, ?_⟩
  rintro y rfl
  rw [cl_0]
  refine ⟨fun c => ⟨hb, fun c2 => ⟨⟨hv, hb⟩, ?_⟩, fun c2 => ?_⟩, fun c => ?_⟩
  · rintro y rfl
    have ez : (1 : Int32) <<< (p2 &&& 31) = zbit p2 := rfl
    rw [ez]
    refine ⟨fun c3 => ⟨fun c4 => ⟨hb, fun c5 => ?_, fun c5 => ?_⟩, fun c4 => ?_⟩, fun c3 => ?_⟩
    · show (1 : Int32) = b2i _
      unfold mish; rw [decide_eq_true c, decide_eq_true c2, decide_eq_true c3, decide_eq_true c4, decide_eq_true c5]; rfl
    · show (0 : Int32) = b2i _
      unfold mish; rw [decide_eq_true c, decide_eq_true c2, decide_eq_true c3, decide_eq_true c4, decide_eq_false c5]; rfl
    · show (0 : Int32) = b2i _
      unfold mish; rw [decide_eq_true c, decide_eq_true c2, decide_eq_true c3, decide_eq_false c4]; rfl
    · show (0 : Int32) = b2i _
      unfold mish; rw [decide_eq_true c, decide_eq_true c2, decide_eq_false c3]; rfl
  · show (0 : Int32) = b2i _
    unfold mish; rw [decide_eq_true c, decide_eq_false c2]; rfl
  · show (0 : Int32) = b2i _
    unfold mish; rw [decide_eq_false c]; rfl
def I_X5_shapesOf_5 (rw : Int32) (co : Int32) (cl : Int32) (fi : Int32) (st : Int64) (th : Int32) (bd : Nat → Int32) (lf : Nat → Int32) (hf : Nat → Int32) (of : Nat → Int32) (gf : Nat → Int32) (tf : Nat → Int32) (kf : Nat → Int32) (p1 : Int32) (p2 : Int32) : Int32 → Int32 → Prop := fun x3 x4 => ∃ k : Nat, (k + 1 ≤ (zbit (rw * co)).toNatClampNeg ∨ k = 0) ∧ x4 = nI (k + 1) ∧ x3 = msc rw co bd hf p1 p2 k
def mu_X5_shapesOf_5 (rw : Int32) (co : Int32) (cl : Int32) (fi : Int32) (st : Int64) (th : Int32) (bd : Nat → Int32) (lf : Nat → Int32) (hf : Nat → Int32) (of : Nat → Int32) (gf : Nat → Int32) (tf : Nat → Int32) (kf : Nat → Int32) (p1 : Int32) (p2 : Int32) : Int32 → Int32 → Nat := fun x3 x4 => (zbit (rw * co)).toNatClampNeg - x4.toNatClampNeg
theorem pl_X5_shapesOf_5 (rw : Int32) (co : Int32) (cl : Int32) (fi : Int32) (st : Int64) (th : Int32) (bd : Nat → Int32) (lf : Nat → Int32) (hf : Nat → Int32) (of : Nat → Int32) (gf : Nat → Int32) (tf : Nat → Int32) (kf : Nat → Int32) (p1 : Int32) (p2 : Int32) (hpre : mcw bd p1) : ∀ (x3 : Int32) (x4 : Int32), I_X5_shapesOf_5 rw co cl fi st th bd lf hf of gf tf kf p1 p2 x3 x4 → vs_X5_shapesOf_5 rw co cl fi st th bd lf hf of gf tf kf p1 p2 (fun (r : Int32) (u : Unit) => r = msO rw co bd hf p1 p2) (fun (x39 : Int32) (x49 : Int32) => I_X5_shapesOf_5 rw co cl fi st th bd lf hf of gf tf kf p1 p2 x39 x49 ∧ mu_X5_shapesOf_5 rw co cl fi st th bd lf hf of gf tf kf p1 p2 x39 x49 < mu_X5_shapesOf_5 rw co cl fi st th bd lf hf of gf tf kf p1 p2 x3 x4) x3 x4 := by
  rintro x3 x4 ⟨k, hk, rfl, rfl⟩
  have hb := cl_lt (zbit (rw * co))
  refine ⟨fun c => ?_, fun c => ?_⟩
  · have c : zbit (rw * co) ≤ nI (k + 1) := c
    rw [cl_le _ (by omega)] at c
    show msc rw co bd hf p1 p2 k = msO rw co bd hf p1 p2
    unfold msO
    congr 1
    omega
  · have c : ¬ zbit (rw * co) ≤ nI (k + 1) := c
    rw [cl_le _ (by omega)] at c
    have hm : (zbit (rw * co)).toNatClampNeg - (nI (k + 1) + 1).toNatClampNeg < (zbit (rw * co)).toNatClampNeg - (nI (k + 1)).toNatClampNeg := hmu _ (by omega) hb
    refine ⟨fun c2 => ⟨hpre, fun c3 => ?_, fun c3 => ?_⟩, fun c2 => ?_⟩
    · rintro y rfl y2 rfl
      rw [b2i_eq0] at c3
      exact ⟨⟨k + 1, Or.inl (by omega), nI_1 _, by simp [msc, c2, c3, b2i]⟩, hm⟩
    · rintro y rfl y2 rfl
      rw [b2i_ne0] at c3
      exact ⟨⟨k + 1, Or.inl (by omega), nI_1 _, by simp [msc, c2, c3, b2i]⟩, hm⟩
    · rintro y rfl y2 rfl
      exact ⟨⟨k + 1, Or.inl (by omega), nI_1 _, by simp [msc, c2, b2i]⟩, hm⟩
theorem pe_X5_shapesOf (rw : Int32) (co : Int32) (cl : Int32) (fi : Int32) (st : Int64) (th : Int32) (bd : Nat → Int32) (lf : Nat → Int32) (hf : Nat → Int32) (of : Nat → Int32) (gf : Nat → Int32) (tf : Nat → Int32) (kf : Nat → Int32) (p1 : Int32) (p2 : Int32) (hpre : mcw bd p1) : ve_X5_shapesOf rw co cl fi st th bd lf hf of gf tf kf p1 p2 (fun (r : Int32) (u : Unit) => r = msO rw co bd hf p1 p2) (I_X5_shapesOf_5 rw co cl fi st th bd lf hf of gf tf kf p1 p2) := ⟨0, Or.inr rfl, rfl, rfl⟩
theorem mfth_cur {rw co : Int32} {bd hf : Nat → Int32} (h : mcur rw co bd hf) (c : Int32) : mfth rw co bd hf c = hf := by
  unfold mfth
  split
  · exact h
  · rfl
theorem mcur_mlk {rw co : Int32} {bd hf : Nat → Int32} : mcur rw co bd (mlk rw co bd hf) := mlk_mlk
def I_X5_onlyNumber_7 (rw : Int32) (co : Int32) (cl : Int32) (fi : Int32) (st : Int64) (th : Int32) (bd : Nat → Int32) (lf : Nat → Int32) (hf : Nat → Int32) (of : Nat → Int32) (gf : Nat → Int32) (tf : Nat → Int32) (kf : Nat → Int32) (p1 : Int32) : Int32 → Int32 → Int32 → (Nat → Int32) → (Nat → Int32) → Prop := fun x2 x3 x4 bd' hf' => bd' = bd ∧ hf' = hf ∧ ∃ k : Nat, k ≤ 9 ∧ x4 = nI (k + 1) ∧ mon rw co bd hf p1 k = (x2, x3)
def mu_X5_onlyNumber_7 (rw : Int32) (co : Int32) (cl : Int32) (fi : Int32) (st : Int64) (th : Int32) (bd : Nat → Int32) (lf : Nat → Int32) (hf : Nat → Int32) (of : Nat → Int32) (gf : Nat → Int32) (tf : Nat → Int32) (kf : Nat → Int32) (p1 : Int32) : Int32 → Int32 → Int32 → (Nat → Int32) → (Nat → Int32) → Nat := fun x2 x3 x4 bd' hf' => 10 - x4.toNatClampNeg
theorem pl_X5_onlyNumber_7 (rw : Int32) (co : Int32) (cl : Int32) (fi : Int32) (st : Int64) (th : Int32) (bd : Nat → Int32) (lf : Nat → Int32) (hf : Nat → Int32) (of : Nat → Int32) (gf : Nat → Int32) (tf : Nat → Int32) (kf : Nat → Int32) (p1 : Int32) (hpre : mok rw co bd ∧ mcur rw co bd hf ∧ vp_in p1 12) : ∀ (x2 : Int32) (x3 : Int32) (x4 : Int32) (bd' : Nat → Int32) (hf' : Nat → Int32), I_X5_onlyNumber_7 rw co cl fi st th bd lf hf of gf tf kf p1 x2 x3 x4 bd' hf' → vs_X5_onlyNumber_7 rw co cl fi st th bd lf hf of gf tf kf p1 (fun (r : Int32) (u : (Nat → Int32) × (Nat → Int32)) => r = monr rw co bd hf p1 ∧ u = (bd, hf)) (fun (x29 : Int32) (x39 : Int32) (x49 : Int32) (bd9 : Nat → Int32) (hf9 : Nat → Int32) => I_X5_onlyNumber_7 rw co cl fi st th bd lf hf of gf tf kf p1 x29 x39 x49 bd9 hf9 ∧ mu_X5_onlyNumber_7 rw co cl fi st th bd lf hf of gf tf kf p1 x29 x39 x49 bd9 hf9 < mu_X5_onlyNumber_7 rw co cl fi st th bd lf hf of gf tf kf p1 x2 x3 x4 bd' hf') x2 x3 x4 bd' hf' := by
  rintro x2 x3 x4 bd' hf' ⟨rfl, rfl, k, hk, rfl, he⟩
  obtain ⟨hok, hcu, hv⟩ := hpre
  refine ⟨fun c => ?_, fun c => ?_⟩
  · have c := k_lt (a := 9) (by decide) (by omega) c
    obtain rfl : k = 9 := by omega
    refine ⟨fun c2 => ⟨?_, rfl⟩, fun c2 => ⟨?_, rfl⟩⟩
    · unfold monr; rw [he, if_pos c2]
    · unfold monr; rw [he, if_neg c2]
  · have c := k_nlt (a := 9) (by decide) (by omega) c
    refine ⟨⟨hok, hv, vp_in_nI (by omega) (by decide)⟩, ?_⟩
    rintro y rfl
    rw [mfth_cur hcu]
    have hm : 10 - (nI (k + 1) + 1).toNatClampNeg < 10 - (nI (k + 1)).toNatClampNeg := hmu 10 (by omega) (by decide)
    refine ⟨fun c2 => ⟨fun c3 => ?_, fun c3 => absurd c2 c3⟩, fun c2 => ⟨fun c3 => absurd c3 c2, fun c3 => ?_⟩⟩
    · rintro y rfl y2 rfl
      rw [b2i_eq0] at c2
      exact ⟨⟨rfl, rfl, k + 1, by omega, nI_1 _, by simp [mon, c2, he]⟩, hm⟩
    · rintro y rfl y2 rfl
      rw [b2i_ne0] at c2
      exact ⟨⟨rfl, rfl, k + 1, by omega, nI_1 _, by simp [mon, c2, he]⟩, hm⟩
theorem pe_X5_onlyNumber (rw : Int32) (co : Int32) (cl : Int32) (fi : Int32) (st : Int64) (th : Int32) (bd : Nat → Int32) (lf : Nat → Int32) (hf : Nat → Int32) (of : Nat → Int32) (gf : Nat → Int32) (tf : Nat → Int32) (kf : Nat → Int32) (p1 : Int32) (hpre : mok rw co bd ∧ mcur rw co bd hf ∧ vp_in p1 12) : ve_X5_onlyNumber rw co cl fi st th bd lf hf of gf tf kf p1 (fun (r : Int32) (u : (Nat → Int32) × (Nat → Int32)) => r = monr rw co bd hf p1 ∧ u = (bd, hf)) (I_X5_onlyNumber_7 rw co cl fi st th bd lf hf of gf tf kf p1) := ⟨rfl, rfl, 0, by decide, rfl, rfl⟩
theorem i_m1 (x : Int32) : x + (-1) = x - 1 := (Int32.sub_eq_add_neg x 1).symm
theorem nI_m1 (m : Nat) : nI m - 1 + 1 = nI m := by rw [Int32.sub_add_cancel]
def I_X5_shapedNumber_9 (rw : Int32) (co : Int32) (cl : Int32) (fi : Int32) (st : Int64) (th : Int32) (bd : Nat → Int32) (lf : Nat → Int32) (hf : Nat → Int32) (of : Nat → Int32) (gf : Nat → Int32) (tf : Nat → Int32) (kf : Nat → Int32) (p1 : Int32) : Int32 → Int32 → (Nat → Int32) → (Nat → Int32) → Prop := fun x2 x3 bd' hf' => bd' = bd ∧ hf' = hf ∧ ∃ m j : Nat, m + j = mN rw co ∧ x3 = nI m - 1 ∧ x2 = mshn rw co bd hf p1 (mN rw co) j
def mu_X5_shapedNumber_9 (rw : Int32) (co : Int32) (cl : Int32) (fi : Int32) (st : Int64) (th : Int32) (bd : Nat → Int32) (lf : Nat → Int32) (hf : Nat → Int32) (of : Nat → Int32) (gf : Nat → Int32) (tf : Nat → Int32) (kf : Nat → Int32) (p1 : Int32) : Int32 → Int32 → (Nat → Int32) → (Nat → Int32) → Nat := fun x2 x3 bd' hf' => (x3 + 1).toNatClampNeg
theorem pl_X5_shapedNumber_9 (rw : Int32) (co : Int32) (cl : Int32) (fi : Int32) (st : Int64) (th : Int32) (bd : Nat → Int32) (lf : Nat → Int32) (hf : Nat → Int32) (of : Nat → Int32) (gf : Nat → Int32) (tf : Nat → Int32) (kf : Nat → Int32) (p1 : Int32) (hpre : mok rw co bd ∧ mcur rw co bd hf ∧ vp_in p1 12) : ∀ (x2 : Int32) (x3 : Int32) (bd' : Nat → Int32) (hf' : Nat → Int32), I_X5_shapedNumber_9 rw co cl fi st th bd lf hf of gf tf kf p1 x2 x3 bd' hf' → vs_X5_shapedNumber_9 rw co cl fi st th bd lf hf of gf tf kf p1 (fun (r : Int32) (u : (Nat → Int32) × (Nat → Int32)) => r = mshn rw co bd hf p1 (mN rw co) (mN rw co) ∧ u = (bd, hf)) (fun (x29 : Int32) (x39 : Int32) (bd9 : Nat → Int32) (hf9 : Nat → Int32) => I_X5_shapedNumber_9 rw co cl fi st th bd lf hf of gf tf kf p1 x29 x39 bd9 hf9 ∧ mu_X5_shapedNumber_9 rw co cl fi st th bd lf hf of gf tf kf p1 x29 x39 bd9 hf9 < mu_X5_shapedNumber_9 rw co cl fi st th bd lf hf of gf tf kf p1 x2 x3 bd' hf') x2 x3 bd' hf' := by
  rintro x2 x3 bd' hf' ⟨rfl, rfl, m, j, hmj, rfl, rfl⟩
  obtain ⟨hok, hcu, hv⟩ := hpre
  have hN := mok_N hok
  refine ⟨fun c => ?_, fun c => ?_⟩
  · cases m with
    | zero =>
      obtain rfl : j = mN rw co := by omega
      exact ⟨rfl, rfl⟩
    | succ m => rw [nI_pred] at c; exact absurd c (nI_pos (by omega))
  · cases m with
    | zero => exact absurd (by decide) c
    | succ m =>
      rw [nI_pred]
      have hvm : vp_in (nI m) 12 := vp_in_nI (by omega) (by decide)
      have ec : (nI m).toNatClampNeg = m := nI_clamp (by omega)
      have hw : mcw bd' (nI m) := mok_cw hok hvm
      have ej : mN rw co - (j + 1) = m := by omega
      have hm : (nI m - 1 + 1).toNatClampNeg < (nI m + 1).toNatClampNeg := by
        rw [nI_m1, nI_1, nI_clamp (by omega), nI_clamp (by omega)]; omega
      rw [ec]
      rintro y rfl
      have e1 : ((1 : Int32) <<< (nI m &&& 31)) - 1 = zbit (nI m) - 1 := rfl
      rw [e1]
      refine ⟨hvm, fun c2 => ?_, fun c2 => ⟨hw, hvm, fun c3 => ?_, fun c3 => ⟨hw, fun c4 => ⟨hvm, ⟨hok, hv, hok.2 m (by omega)⟩, fun c5 => ?_, fun c5 => ⟨hw, ?_⟩⟩, fun c4 => ?_⟩⟩⟩
      · rintro y rfl
        rw [i_m1]
        have hc : mshc rw co bd' hf' p1 m = false := by unfold mshc; rw [decide_eq_false (Int32.not_lt.mpr c2)]; rfl
        exact ⟨⟨rfl, rfl, m, j + 1, by omega, rfl, by simp [mshn, ej, hc]⟩, hm⟩
      · rintro y rfl
        rw [i_m1]
        have hc : mshc rw co bd' hf' p1 m = false := by unfold mshc; rw [decide_eq_false (Int32.not_lt.mpr c3), Bool.and_false]; rfl
        exact ⟨⟨rfl, rfl, m, j + 1, by omega, rfl, by simp [mshn, ej, hc]⟩, hm⟩
      · rintro y rfl
        rw [i_m1, mfth_cur hcu]
        rw [b2i_eq0] at c5
        have hc : mshc rw co bd' hf' p1 m = false := by unfold mshc; rw [c5, Bool.and_false]
        exact ⟨⟨rfl, rfl, m, j + 1, by omega, rfl, by simp [mshn, ej, hc]⟩, hm⟩
      · rintro y rfl
        rw [b2i_ne0] at c5
        have hc : mshc rw co bd' hf' p1 m = true := by unfold mshc; rw [decide_eq_true (Int32.not_le.mp c2), decide_eq_true (Int32.not_le.mp c3), decide_eq_true c4, c5]; rfl
        rw [mfth_cur hcu]
        refine ⟨fun c6 => ?_, fun c6 => ⟨hw, fun c7 => ⟨hvm, ?_⟩, fun c7 => ?_⟩⟩
        · rintro y rfl
          rw [i_m1]
          exact ⟨⟨rfl, rfl, m, j + 1, by omega, rfl, by simp [mshn, ej, hc, Int32.not_lt.mpr c6]⟩, hm⟩
        · rintro y rfl y2 rfl
          rw [i_m1]
          have c7 : msO rw co bd' hf' (nI m) (zbit p1) = msO rw co bd' hf' (nI m) 0 := c7
          exact ⟨⟨rfl, rfl, m, j + 1, by omega, rfl, by simp [mshn, ej, hc, Int32.not_le.mp c6, c7]⟩, hm⟩
        · rintro y rfl
          rw [i_m1]
          have c7 : ¬ msO rw co bd' hf' (nI m) (zbit p1) = msO rw co bd' hf' (nI m) 0 := c7
          exact ⟨⟨rfl, rfl, m, j + 1, by omega, rfl, by simp [mshn, ej, hc, c7]⟩, hm⟩
      · rintro y rfl
        rw [i_m1]
        have hc : mshc rw co bd' hf' p1 m = false := by unfold mshc; rw [decide_eq_false c4, Bool.and_false]; rfl
        exact ⟨⟨rfl, rfl, m, j + 1, by omega, rfl, by simp [mshn, ej, hc]⟩, hm⟩
theorem pe_X5_shapedNumber (rw : Int32) (co : Int32) (cl : Int32) (fi : Int32) (st : Int64) (th : Int32) (bd : Nat → Int32) (lf : Nat → Int32) (hf : Nat → Int32) (of : Nat → Int32) (gf : Nat → Int32) (tf : Nat → Int32) (kf : Nat → Int32) (p1 : Int32) (hpre : mok rw co bd ∧ mcur rw co bd hf ∧ vp_in p1 12) : ve_X5_shapedNumber rw co cl fi st th bd lf hf of gf tf kf p1 (fun (r : Int32) (u : (Nat → Int32) × (Nat → Int32)) => r = mshn rw co bd hf p1 (mN rw co) (mN rw co) ∧ u = (bd, hf)) (I_X5_shapedNumber_9 rw co cl fi st th bd lf hf of gf tf kf p1) := by
  have hN := mok_N hpre.1
  rintro y rfl
  exact ⟨rfl, rfl, mN rw co, 0, by omega, by rw [← hN.2], rfl⟩
