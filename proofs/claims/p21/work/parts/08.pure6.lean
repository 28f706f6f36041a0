theorem min15_in {n : Int32} (h : min3 n 1 5 = true) : ∃ q : Nat, 1 ≤ q ∧ q ≤ 5 ∧ n = nI q := min3_in (a := 1) (b := 5) (by decide) (by decide) h
theorem msB_0 (most : Int32) (L : List (Nat → Int32)) (b : Nat → Int32) : msB most 0 L b = b := by unfold msB; rw [if_neg (fun z => z.1 rfl)]
theorem pe_X5_solutions (rw : Int32) (co : Int32) (cl : Int32) (fi : Int32) (st : Int64) (th : Int32) (bd : Nat → Int32) (lf : Nat → Int32) (hf : Nat → Int32) (of : Nat → Int32) (gf : Nat → Int32) (tf : Nat → Int32) (kf : Nat → Int32) (p1 : Int32) (hpre : mok rw co bd ∧ ∀ k, k < 12 → vp_in (gf k) 9) : ve_X5_solutions rw co cl fi st th bd lf hf of gf tf kf p1 (fun (r : Int32) (u : Int32 × (Nat → Int32) × (Nat → Int32) × (Nat → Int32) × (Nat → Int32)) => r = (if min3 p1 1 5 then msR p1 (mall0 rw co bd gf) else 0) ∧ u.1 = (if min3 p1 1 5 then 0 else 1) ∧ u.2.1 = bd)  := by
  refine ⟨fun c => ?_, fun c => ⟨?_, fun h1 h2 h3 => ?_⟩⟩
  · rw [b2i_eq0] at c
    exact ⟨by simp [c], by simp [c], rfl⟩
  · rw [b2i_ne0] at c
    obtain ⟨q, h1, h2, rfl⟩ := min15_in c
    exact ⟨hpre.1, hpre.2, q, h1, by omega, rfl⟩
  · rw [b2i_ne0] at c
    exact ⟨by simp [c], by simp [c], msB_0 p1 (mall0 rw co bd gf) bd⟩
/-- the draws, by their numbers -/
def nnx (n : Nat) : Nat := (n * 1103515245 + 12345) % 2147483648
def ndr (n : Nat) : Nat → Nat | 0 => n | k + 1 => nnx (ndr n k)
theorem nnx_lt (n : Nat) : nnx n < 2 ^ 31 := Nat.mod_lt _ (by decide)
theorem ndr_lt {n : Nat} (h : n < 2 ^ 31) : ∀ k, ndr n k < 2 ^ 31
  | 0 => h
  | k + 1 => nnx_lt _
theorem mdr_lN {n : Nat} (h : n < 2 ^ 31) : mdr (lN n) = lN (nnx n) := by
  unfold mdr nnx
  have e1 : (1103515245 : Int64) = lN 1103515245 := rfl
  have e2 : (12345 : Int64) = lN 12345 := rfl
  have e3 : (2147483648 : Int64) = lN 2147483648 := rfl
  rw [e1, e2, e3, lN_mul, lN_add, pk_lRem (by omega) (by decide) (by decide)]
theorem mdst_lN {n : Nat} (h : n < 2 ^ 31) : ∀ k, mdst (lN n) k = lN (ndr n k)
  | 0 => rfl
  | k + 1 => by simp only [mdst, ndr]; rw [mdst_lN h k, mdr_lN (ndr_lt h k)]
theorem mdi_lN {n : Nat} (h : n < 2 ^ 31) : mdi (lN n) = nI (n / 65536) := by
  unfold mdi
  have e1 : (65536 : Int64) = lN 65536 := rfl
  rw [e1, pk_lDiv (by omega) (by decide) (by decide), lN_i]
theorem zrem_nI {a b : Nat} (ha : a < 2 ^ 31) (h0 : 0 < b) (hb : b < 2 ^ 31) : zrem (nI a) (nI b) = nI (a % b) := pk_rem ha h0 hb
theorem mdst_add (s : Int64) (n : Nat) : ∀ k, mdst (mdst s n) k = mdst s (n + k)
  | 0 => rfl
  | k + 1 => by simp only [mdst]; rw [mdst_add s n k]; rfl
theorem mz_draw {n : Nat} (h : n < 2 ^ 31) (k : Nat) {b : Nat} (h0 : 0 < b) (hb : b < 2 ^ 31) : zrem (mdi (mdst (lN n) k)) (nI b) = nI (ndr n k / 65536 % b) := by
  have := ndr_lt h k
  rw [mdst_lN h, mdi_lN this, zrem_nI (by omega) h0 hb]
theorem mok_mmk1 {rw co : Int32} {bd : Nat → Int32} (h : mok rw co bd) : mok rw co (mmk1 rw co bd) := by
  refine ⟨h.1, fun k hk => ?_⟩
  unfold mmk1
  split
  · exact vp_0_10
  · exact h.2 k hk
theorem mmkg_in {rw co : Int32} {gf : Nat → Int32} (hg : ∀ k, k < 12 → vp_in (gf k) 9) {n : Nat} (hn : n < 2 ^ 31) : ∀ k, k < 12 → vp_in (mmkg rw co gf (nI n) k) 9 := by
  intro k hk
  unfold mmkg
  split
  · have e9 : (9 : Int32) = nI 9 := rfl
    rw [nI_l hn, e9, mz_draw hn (k + 1) (by decide) (by decide)]
    exact vp_in_nI (Nat.mod_lt _ (by decide)) (by decide)
  · exact hg k hk
theorem mem_tcat {α : Type} {x : α} {g : Nat → List α} : ∀ j, x ∈ tcat g j → ∃ t, t < 9 ∧ x ∈ g t
  | 0, h => absurd h List.not_mem_nil
  | j + 1, h => by
    simp only [tcat, List.mem_append] at h
    rcases h with h | h
    · exact ⟨8 - j, by omega, h⟩
    · exact mem_tcat j h
theorem msl_mok {rw co : Int32} {gf : Nat → Int32} (hg : ∀ k, k < 12 → vp_in (gf k) 9) : ∀ (LL : List Nat), (∀ c, c ∈ LL → c < 12) → ∀ b, mok rw co b → ∀ x, x ∈ msl rw co gf LL b → mok rw co x
  | [], _, b, hb, x, hx => by
    simp only [msl, List.mem_singleton] at hx
    rw [hx]; exact hb
  | c :: cs, hLL, b, hb, x, hx => by
    simp only [msl] at hx
    obtain ⟨t, ht, hx⟩ := mem_tcat 9 hx
    split at hx
    · exact msl_mok hg cs (fun c' h => hLL c' (List.mem_cons_of_mem _ h)) _ (mok_upd hb (mnum_in (hg c (hLL c List.mem_cons_self)) ht)) x hx
    · exact absurd hx List.not_mem_nil
theorem mok_msB {rw co : Int32} {gf b : Nat → Int32} (hg : ∀ k, k < 12 → vp_in (gf k) 9) (hb : mok rw co b) (most stays : Int32) (h1 : 1 ≤ most.toNatClampNeg) : mok rw co (msB most stays (mall0 rw co b gf) b) := by
  unfold msB
  split
  · next h =>
    have hl : most.toNatClampNeg - 1 < (mall0 rw co b gf).length := by omega
    rw [List.getD_eq_getElem?_getD, List.getElem?_eq_getElem hl, Option.getD_some]
    have hN := mok_N hb
    exact msl_mok hg _ (fun c hc => by have := ((mopn_mem b _ c).mp hc).1; omega) b hb _ (List.getElem_mem hl)
  · exact hb
theorem upd_same (b : Nat → Int32) (c : Nat) (n : Int32) : upd (upd b c n) c (b c) = b := by
  funext k
  unfold upd
  split
  · next e => rw [e]
  · rfl
theorem upd_twice (b : Nat → Int32) (c : Nat) (n m : Int32) : upd (upd b c n) c m = upd b c m := by
  funext k
  unfold upd
  split <;> rfl
def mkpre (rw co : Int32) (bd gf : Nat → Int32) (p1 : Int32) : Prop := (mok rw co bd ∧ (∀ k, k < 12 → vp_in (gf k) 9) ∧ 1 ≤ mN rw co) ∧ 0 ≤ p1
def I_X5_make_26 (rw : Int32) (co : Int32) (cl : Int32) (fi : Int32) (st : Int64) (th : Int32) (bd : Nat → Int32) (lf : Nat → Int32) (hf : Nat → Int32) (of : Nat → Int32) (gf : Nat → Int32) (tf : Nat → Int32) (kf : Nat → Int32) (p1 : Int32) : Int32 → Int32 → (Nat → Int32) → Int32 → Int32 → Int64 → (Nat → Int32) → (Nat → Int32) → (Nat → Int32) → (Nat → Int32) → Prop := fun x2 th' bd' cl' fi' st' gf' hf' of' tf' => mkpre rw co bd gf p1 ∧ th' = 0 ∧ ∃ k : Nat, k ≤ mN rw co ∧ x2 = nI k ∧ (bd' = fun i => if i < k then mmk1 rw co bd i else bd i) ∧ (gf' = fun i => if i < k then mmkg rw co gf p1 i else gf i) ∧ st' = mdst p1.toInt64 k
def mu_X5_make_26 (rw : Int32) (co : Int32) (cl : Int32) (fi : Int32) (st : Int64) (th : Int32) (bd : Nat → Int32) (lf : Nat → Int32) (hf : Nat → Int32) (of : Nat → Int32) (gf : Nat → Int32) (tf : Nat → Int32) (kf : Nat → Int32) (p1 : Int32) : Int32 → Int32 → (Nat → Int32) → Int32 → Int32 → Int64 → (Nat → Int32) → (Nat → Int32) → (Nat → Int32) → (Nat → Int32) → Nat := fun x2 th' bd' cl' fi' st' gf' hf' of' tf' => mN rw co - x2.toNatClampNeg
def I_X5_make_86 (rw : Int32) (co : Int32) (cl : Int32) (fi : Int32) (st : Int64) (th : Int32) (bd : Nat → Int32) (lf : Nat → Int32) (hf : Nat → Int32) (of : Nat → Int32) (gf : Nat → Int32) (tf : Nat → Int32) (kf : Nat → Int32) (p1 : Int32) : Int32 → Int32 → (Nat → Int32) → Int32 → Int32 → Int64 → (Nat → Int32) → (Nat → Int32) → (Nat → Int32) → (Nat → Int32) → Prop := fun x2 th' bd' cl' fi' st' gf' hf' of' tf' => mkpre rw co bd gf p1 ∧ th' = 0 ∧ fi' = 0 ∧ bd' = mmks rw co bd gf p1 ∧ cl' = mall rw co ∧ st' = mdst p1.toInt64 (mN rw co) ∧ ∃ k : Nat, k ≤ 12 ∧ x2 = nI k ∧ gf' = fun i => if i < k then mz12 gf i else mmkg rw co gf p1 i
def mu_X5_make_86 (rw : Int32) (co : Int32) (cl : Int32) (fi : Int32) (st : Int64) (th : Int32) (bd : Nat → Int32) (lf : Nat → Int32) (hf : Nat → Int32) (of : Nat → Int32) (gf : Nat → Int32) (tf : Nat → Int32) (kf : Nat → Int32) (p1 : Int32) : Int32 → Int32 → (Nat → Int32) → Int32 → Int32 → Int64 → (Nat → Int32) → (Nat → Int32) → (Nat → Int32) → (Nat → Int32) → Nat := fun x2 th' bd' cl' fi' st' gf' hf' of' tf' => 12 - x2.toNatClampNeg
def I_X5_make_107 (rw : Int32) (co : Int32) (cl : Int32) (fi : Int32) (st : Int64) (th : Int32) (bd : Nat → Int32) (lf : Nat → Int32) (hf : Nat → Int32) (of : Nat → Int32) (gf : Nat → Int32) (tf : Nat → Int32) (kf : Nat → Int32) (p1 : Int32) : Int32 → Int32 → (Nat → Int32) → Int32 → Int32 → Int64 → (Nat → Int32) → (Nat → Int32) → (Nat → Int32) → (Nat → Int32) → Prop := fun x2 th' bd' cl' fi' st' gf' hf' of' tf' => mkpre rw co bd gf p1 ∧ th' = 0 ∧ fi' = 0 ∧ gf' = mz12 gf ∧ mok rw co bd' ∧ ∃ k : Nat, k ≤ mN rw co ∧ x2 = nI k ∧ st' = mdst (mdst p1.toInt64 (mN rw co)) k ∧ (bd', cl') = mtks rw co (mz12 gf) (mdst p1.toInt64 (mN rw co)) (mmks rw co bd gf p1, mall rw co) k
def mu_X5_make_107 (rw : Int32) (co : Int32) (cl : Int32) (fi : Int32) (st : Int64) (th : Int32) (bd : Nat → Int32) (lf : Nat → Int32) (hf : Nat → Int32) (of : Nat → Int32) (gf : Nat → Int32) (tf : Nat → Int32) (kf : Nat → Int32) (p1 : Int32) : Int32 → Int32 → (Nat → Int32) → Int32 → Int32 → Int64 → (Nat → Int32) → (Nat → Int32) → (Nat → Int32) → (Nat → Int32) → Nat := fun x2 th' bd' cl' fi' st' gf' hf' of' tf' => mN rw co - x2.toNatClampNeg
theorem ge0_nI {x : Int32} (h : 0 ≤ x) : ∃ n : Nat, n < 2 ^ 31 ∧ x = nI n := nI_of (Int32.not_lt.mpr h)
theorem pl_X5_make_26 (rw : Int32) (co : Int32) (cl : Int32) (fi : Int32) (st : Int64) (th : Int32) (bd : Nat → Int32) (lf : Nat → Int32) (hf : Nat → Int32) (of : Nat → Int32) (gf : Nat → Int32) (tf : Nat → Int32) (kf : Nat → Int32) (p1 : Int32) (hpre : mok rw co bd ∧ (∀ k, k < 12 → vp_in (gf k) 9) ∧ 1 ≤ mN rw co) : ∀ (x2 : Int32) (th' : Int32) (bd' : Nat → Int32) (cl' : Int32) (fi' : Int32) (st' : Int64) (gf' : Nat → Int32) (hf' : Nat → Int32) (of' : Nat → Int32) (tf' : Nat → Int32), I_X5_make_26 rw co cl fi st th bd lf hf of gf tf kf p1 x2 th' bd' cl' fi' st' gf' hf' of' tf' → vs_X5_make_26 rw co cl fi st th bd lf hf of gf tf kf p1 (fun (r : Int32) (u : Int32 × (Nat → Int32) × Int32 × Int32 × Int64 × (Nat → Int32) × (Nat → Int32) × (Nat → Int32) × (Nat → Int32)) => r = (if p1 < 0 then 0 else mcn ((mmk rw co bd gf p1)).2 12) ∧ u.1 = (if p1 < 0 then 1 else 0) ∧ u.2.1 = (if p1 < 0 then bd else ((mmk rw co bd gf p1)).1) ∧ u.2.2.1 = (if p1 < 0 then cl else ((mmk rw co bd gf p1)).2) ∧ u.2.2.2.1 = (if p1 < 0 then fi else 0) ∧ u.2.2.2.2.2.1 = (if p1 < 0 then gf else mz12 gf)) (fun (x29 : Int32) (th9 : Int32) (bd9 : Nat → Int32) (cl9 : Int32) (fi9 : Int32) (st9 : Int64) (gf9 : Nat → Int32) (hf9 : Nat → Int32) (of9 : Nat → Int32) (tf9 : Nat → Int32) => I_X5_make_26 rw co cl fi st th bd lf hf of gf tf kf p1 x29 th9 bd9 cl9 fi9 st9 gf9 hf9 of9 tf9 ∧ mu_X5_make_26 rw co cl fi st th bd lf hf of gf tf kf p1 x29 th9 bd9 cl9 fi9 st9 gf9 hf9 of9 tf9 < mu_X5_make_26 rw co cl fi st th bd lf hf of gf tf kf p1 x2 th' bd' cl' fi' st' gf' hf' of' tf') (I_X5_make_86 rw co cl fi st th bd lf hf of gf tf kf p1) (I_X5_make_107 rw co cl fi st th bd lf hf of gf tf kf p1) x2 th' bd' cl' fi' st' gf' hf' of' tf' := by
  rintro x2 th' bd' cl' fi' st' gf' hf' of' tf' ⟨hp, rfl, k, hk, rfl, eb, eg, rfl⟩
  obtain ⟨⟨hok, hg, hN1⟩, hp0⟩ := id hp
  have hN := mok_N hok
  have hmN : mN rw co = (rw * co).toNatClampNeg := rfl
  refine ⟨fun c => ?_, fun c => ?_⟩
  · rw [cl_le _ (by omega)] at c
    obtain rfl : k = mN rw co := by omega
    have eb2 : bd' = mmk1 rw co bd := upd_all eb (fun i hi => by simp [mmk1, hi])
    have eg2 : gf' = mmkg rw co gf p1 := upd_all eg (fun i hi => by simp [mmkg, hi])
    obtain ⟨n, hn, rfl⟩ := ge0_nI hp0
    subst eb2; subst eg2
    refine ⟨⟨mok_mmk1 hok, mmkg_in hg hn, 1, by decide, by decide, rfl⟩, fun h1 h2 h3 => ?_⟩
    exact ⟨hp, rfl, rfl, rfl, rfl, rfl, 0, by decide, rfl, by funext i; simp⟩
  · rw [cl_le _ (by omega)] at c
    have c : k < mN rw co := by omega
    have hv : vp_in (nI k) 12 := vp_in_nI (by omega) (by decide)
    rw [nI_clamp (by omega)]
    refine ⟨hv, hv, ?_⟩
    rintro y rfl
    exact ⟨⟨hp, rfl, k + 1, c, nI_1 k, upd_step eb (by simp [mmk1, c]), upd_step eg (by simp [mmkg, c, mdst, zrem]), rfl⟩, hmu _ c (by omega)⟩
theorem pl_X5_make_86 (rw : Int32) (co : Int32) (cl : Int32) (fi : Int32) (st : Int64) (th : Int32) (bd : Nat → Int32) (lf : Nat → Int32) (hf : Nat → Int32) (of : Nat → Int32) (gf : Nat → Int32) (tf : Nat → Int32) (kf : Nat → Int32) (p1 : Int32) (hpre : mok rw co bd ∧ (∀ k, k < 12 → vp_in (gf k) 9) ∧ 1 ≤ mN rw co) : ∀ (x2 : Int32) (th' : Int32) (bd' : Nat → Int32) (cl' : Int32) (fi' : Int32) (st' : Int64) (gf' : Nat → Int32) (hf' : Nat → Int32) (of' : Nat → Int32) (tf' : Nat → Int32), I_X5_make_86 rw co cl fi st th bd lf hf of gf tf kf p1 x2 th' bd' cl' fi' st' gf' hf' of' tf' → vs_X5_make_86 rw co cl fi st th bd lf hf of gf tf kf p1 (fun (r : Int32) (u : Int32 × (Nat → Int32) × Int32 × Int32 × Int64 × (Nat → Int32) × (Nat → Int32) × (Nat → Int32) × (Nat → Int32)) => r = (if p1 < 0 then 0 else mcn ((mmk rw co bd gf p1)).2 12) ∧ u.1 = (if p1 < 0 then 1 else 0) ∧ u.2.1 = (if p1 < 0 then bd else ((mmk rw co bd gf p1)).1) ∧ u.2.2.1 = (if p1 < 0 then cl else ((mmk rw co bd gf p1)).2) ∧ u.2.2.2.1 = (if p1 < 0 then fi else 0) ∧ u.2.2.2.2.2.1 = (if p1 < 0 then gf else mz12 gf)) (I_X5_make_26 rw co cl fi st th bd lf hf of gf tf kf p1) (fun (x29 : Int32) (th9 : Int32) (bd9 : Nat → Int32) (cl9 : Int32) (fi9 : Int32) (st9 : Int64) (gf9 : Nat → Int32) (hf9 : Nat → Int32) (of9 : Nat → Int32) (tf9 : Nat → Int32) => I_X5_make_86 rw co cl fi st th bd lf hf of gf tf kf p1 x29 th9 bd9 cl9 fi9 st9 gf9 hf9 of9 tf9 ∧ mu_X5_make_86 rw co cl fi st th bd lf hf of gf tf kf p1 x29 th9 bd9 cl9 fi9 st9 gf9 hf9 of9 tf9 < mu_X5_make_86 rw co cl fi st th bd lf hf of gf tf kf p1 x2 th' bd' cl' fi' st' gf' hf' of' tf') (I_X5_make_107 rw co cl fi st th bd lf hf of gf tf kf p1) x2 th' bd' cl' fi' st' gf' hf' of' tf' := by
  rintro x2 th' bd' cl' fi' st' gf' hf' of' tf' ⟨hp, rfl, rfl, rfl, rfl, rfl, k, hk, rfl, eg⟩
  obtain ⟨⟨hok, hg, hN1⟩, hp0⟩ := id hp
  have hN := mok_N hok
  refine ⟨fun c => ?_, fun c => ?_⟩
  · have c := k_le (a := 12) (by decide) (by omega) c
    obtain rfl : k = 12 := by omega
    have eg2 : gf' = mz12 gf := upd_all eg (fun i hi => by simp [mz12, mmkg, hi, show ¬ i < mN rw co by omega])
    obtain ⟨n, hn, rfl⟩ := ge0_nI hp0
    exact ⟨hp, rfl, rfl, eg2, mok_msB (mmkg_in hg hn) (mok_mmk1 hok) 1 1 (by decide), 0, Nat.zero_le _, rfl, rfl, rfl⟩
  · have c := k_nle (a := 12) (by decide) (by omega) c
    rw [nI_clamp (by omega)]
    refine ⟨vp_in_nI c (by decide), ?_⟩
    rintro y rfl
    exact ⟨⟨hp, rfl, rfl, rfl, rfl, rfl, k + 1, by omega, nI_1 k, upd_step eg (by simp [mz12, c])⟩, hmu 12 c (by decide)⟩
theorem pl_X5_make_107 (rw : Int32) (co : Int32) (cl : Int32) (fi : Int32) (st : Int64) (th : Int32) (bd : Nat → Int32) (lf : Nat → Int32) (hf : Nat → Int32) (of : Nat → Int32) (gf : Nat → Int32) (tf : Nat → Int32) (kf : Nat → Int32) (p1 : Int32) (hpre : mok rw co bd ∧ (∀ k, k < 12 → vp_in (gf k) 9) ∧ 1 ≤ mN rw co) : ∀ (x2 : Int32) (th' : Int32) (bd' : Nat → Int32) (cl' : Int32) (fi' : Int32) (st' : Int64) (gf' : Nat → Int32) (hf' : Nat → Int32) (of' : Nat → Int32) (tf' : Nat → Int32), I_X5_make_107 rw co cl fi st th bd lf hf of gf tf kf p1 x2 th' bd' cl' fi' st' gf' hf' of' tf' → vs_X5_make_107 rw co cl fi st th bd lf hf of gf tf kf p1 (fun (r : Int32) (u : Int32 × (Nat → Int32) × Int32 × Int32 × Int64 × (Nat → Int32) × (Nat → Int32) × (Nat → Int32) × (Nat → Int32)) => r = (if p1 < 0 then 0 else mcn ((mmk rw co bd gf p1)).2 12) ∧ u.1 = (if p1 < 0 then 1 else 0) ∧ u.2.1 = (if p1 < 0 then bd else ((mmk rw co bd gf p1)).1) ∧ u.2.2.1 = (if p1 < 0 then cl else ((mmk rw co bd gf p1)).2) ∧ u.2.2.2.1 = (if p1 < 0 then fi else 0) ∧ u.2.2.2.2.2.1 = (if p1 < 0 then gf else mz12 gf)) (I_X5_make_26 rw co cl fi st th bd lf hf of gf tf kf p1) (I_X5_make_86 rw co cl fi st th bd lf hf of gf tf kf p1) (fun (x29 : Int32) (th9 : Int32) (bd9 : Nat → Int32) (cl9 : Int32) (fi9 : Int32) (st9 : Int64) (gf9 : Nat → Int32) (hf9 : Nat → Int32) (of9 : Nat → Int32) (tf9 : Nat → Int32) => I_X5_make_107 rw co cl fi st th bd lf hf of gf tf kf p1 x29 th9 bd9 cl9 fi9 st9 gf9 hf9 of9 tf9 ∧ mu_X5_make_107 rw co cl fi st th bd lf hf of gf tf kf p1 x29 th9 bd9 cl9 fi9 st9 gf9 hf9 of9 tf9 < mu_X5_make_107 rw co cl fi st th bd lf hf of gf tf kf p1 x2 th' bd' cl' fi' st' gf' hf' of' tf') x2 th' bd' cl' fi' st' gf' hf' of' tf' := by
  rintro x2 th' bd' cl' fi' st' gf' hf' of' tf' ⟨hp, rfl, rfl, rfl, hb, k, hk, rfl, rfl, e⟩
  obtain ⟨⟨hok, hg, hN1⟩, hp0⟩ := id hp
  have hN := mok_N hok
  have hmN : mN rw co = (rw * co).toNatClampNeg := rfl
  have hng : ¬ p1 < 0 := Int32.not_lt.mpr hp0
  refine ⟨fun c => ?_, fun c => ?_⟩
  · rw [cl_le _ (by omega)] at c
    obtain rfl : k = mN rw co := by omega
    have e2 : mmk rw co bd gf p1 = (bd', cl') := by unfold mmk; rw [e]
    refine ⟨by rw [e2, if_neg hng], by rw [if_neg hng], by rw [e2, if_neg hng], by rw [e2, if_neg hng], by rw [if_neg hng], by rw [if_neg hng]⟩
  · rw [cl_le _ (by omega)] at c
    have c : k < mN rw co := by omega
    have hm : mN rw co - (nI k + 1).toNatClampNeg < mN rw co - (nI k).toNatClampNeg := hmu _ c (by omega)
    have hne : ¬ rw * co = 0 := by rw [hN.2]; exact nI_ne0 (by omega) (by omega)
    refine ⟨hne, ?_⟩
    intro y hy
    obtain ⟨n, hn, rfl⟩ := ge0_nI hp0
    have hy2 : y = zrem (mdi (mdst (mdst (nI n).toInt64 (mN rw co)) (k + 1))) (rw * co) := hy
    have hyN : y = nI (ndr n (mN rw co + (k + 1)) / 65536 % mN rw co) := by
      rw [hy2, mdst_add, nI_l hn, hN.2, mz_draw hn _ (by omega) (by omega)]
    have hlt : ndr n (mN rw co + (k + 1)) / 65536 % mN rw co < mN rw co := Nat.mod_lt _ (by omega)
    have hv : vp_in y 12 := by rw [hyN]; exact vp_in_nI (by omega) (by decide)
    have hk1 : mtks rw co (mz12 gf) (mdst (nI n).toInt64 (mN rw co)) (mmks rw co bd gf (nI n), mall rw co) (k + 1) = mtk rw co (mz12 gf) (bd', cl') y := by
      simp only [mtks]; rw [← e, hy2]
    have hz9 : ∀ k, k < 12 → vp_in (mz12 gf k) 9 := fun k hk => by simp only [mz12, hk, if_true]; exact vp_in_nI (n := 0) (by decide) (by decide)
    refine ⟨hv, ?_⟩
    rintro y2 rfl
    refine ⟨hv, fun c2 => ⟨hv, ?_⟩, fun c2 => ⟨⟨mok_upd hb vp_0_10, hz9, 2, by decide, by decide, rfl⟩, fun h1 h2 h3 => ⟨fun c3 => ⟨hv, ?_⟩, fun c3 => ⟨hv, ?_⟩⟩⟩⟩
    · rintro y3 rfl
      rw [b2i_eq0] at c2
      refine ⟨⟨hp, rfl, rfl, rfl, by rw [upd_same]; exact hb, k + 1, c, nI_1 k, rfl, ?_⟩, hm⟩
      rw [hk1, upd_same]; unfold mtk; rw [if_neg (fun z => by rw [c2] at z; exact absurd z.1 (by decide))]
    · rintro y3 rfl
      rw [b2i_ne0] at c2
      rw [msB_0, upd_twice]
      refine ⟨⟨hp, rfl, rfl, rfl, mok_upd hb vp_0_10, k + 1, c, nI_1 k, rfl, ?_⟩, hm⟩
      rw [hk1]; unfold mtk; rw [if_pos ⟨c2, c3⟩]; rfl
    · rintro y3 rfl
      rw [msB_0, upd_same]
      refine ⟨⟨hp, rfl, rfl, rfl, hb, k + 1, c, nI_1 k, rfl, ?_⟩, hm⟩
      rw [hk1]; unfold mtk; rw [if_neg (fun z => c3 z.2)]
theorem pe_X5_make (rw : Int32) (co : Int32) (cl : Int32) (fi : Int32) (st : Int64) (th : Int32) (bd : Nat → Int32) (lf : Nat → Int32) (hf : Nat → Int32) (of : Nat → Int32) (gf : Nat → Int32) (tf : Nat → Int32) (kf : Nat → Int32) (p1 : Int32) (hpre : mok rw co bd ∧ (∀ k, k < 12 → vp_in (gf k) 9) ∧ 1 ≤ mN rw co) : ve_X5_make rw co cl fi st th bd lf hf of gf tf kf p1 (fun (r : Int32) (u : Int32 × (Nat → Int32) × Int32 × Int32 × Int64 × (Nat → Int32) × (Nat → Int32) × (Nat → Int32) × (Nat → Int32)) => r = (if p1 < 0 then 0 else mcn ((mmk rw co bd gf p1)).2 12) ∧ u.1 = (if p1 < 0 then 1 else 0) ∧ u.2.1 = (if p1 < 0 then bd else ((mmk rw co bd gf p1)).1) ∧ u.2.2.1 = (if p1 < 0 then cl else ((mmk rw co bd gf p1)).2) ∧ u.2.2.2.1 = (if p1 < 0 then fi else 0) ∧ u.2.2.2.2.2.1 = (if p1 < 0 then gf else mz12 gf)) (I_X5_make_26 rw co cl fi st th bd lf hf of gf tf kf p1) (I_X5_make_86 rw co cl fi st th bd lf hf of gf tf kf p1) (I_X5_make_107 rw co cl fi st th bd lf hf of gf tf kf p1) := by
  refine ⟨fun c => ?_, fun c => ?_⟩
  · exact ⟨⟨hpre, c⟩, rfl, 0, Nat.zero_le _, rfl, by funext i; simp, by funext i; simp, rfl⟩
  · have h : p1 < 0 := Int32.not_le.mp c
    exact ⟨by rw [if_pos h], by rw [if_pos h], by rw [if_pos h], by rw [if_pos h], by rw [if_pos h], by rw [if_pos h]⟩
