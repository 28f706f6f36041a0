/-! the reference's search: its solved boards in their order -/
def mft0 (rw co : Int32) (b : Nat → Int32) (c n : Int32) : Bool := mft rw co b (fun _ => 0) c n
def mnum (gf : Nat → Int32) (c t : Nat) : Int32 := zrem (gf c + nI t) 9 + 1
def tcat {α : Type} (g : Nat → List α) : Nat → List α | 0 => [] | j + 1 => g (8 - j) ++ tcat g j
def msl (rw co : Int32) (gf : Nat → Int32) : List Nat → (Nat → Int32) → List (Nat → Int32) | [], b => [b] | c :: cs, b => tcat (fun t => if mft0 rw co b (nI c) (mnum gf c t) then msl rw co gf cs (upd b c (mnum gf c t)) else []) 9
def mopn (bd : Nat → Int32) : Nat → List Nat | 0 => [] | k + 1 => if bd k = 0 then mopn bd k ++ [k] else mopn bd k
def mall0 (rw co : Int32) (bd gf : Nat → Int32) : List (Nat → Int32) := msl rw co gf (mopn bd (mN rw co)) bd
def msR (most : Int32) (L : List (Nat → Int32)) : Int32 := if L.length < most.toNatClampNeg then nI L.length else most
def msB (most stays : Int32) (L : List (Nat → Int32)) (b0 : Nat → Int32) : Nat → Int32 := if ¬ stays = 0 ∧ most.toNatClampNeg ≤ L.length then L.getD (most.toNatClampNeg - 1) b0 else b0
def mspre (rw co : Int32) (bd gf : Nat → Int32) (most : Int32) : Prop := mok rw co bd ∧ (∀ k, k < 12 → vp_in (gf k) 9) ∧ ∃ q : Nat, 1 ≤ q ∧ q ≤ 100 ∧ most = nI q
def mdst (st : Int64) : Nat → Int64 | 0 => st | k + 1 => mdr (mdst st k)
/-- the board of clues while clues are taken: cell by cell as drawn -/
def mtk (rw co : Int32) (gf : Nat → Int32) (q : (Nat → Int32) × Int32) (c : Int32) : (Nat → Int32) × Int32 := if mhas q.2 c = true ∧ msR 2 (mall0 rw co (upd q.1 c.toNatClampNeg 0) gf) = 1 then (upd q.1 c.toNatClampNeg 0, q.2 &&& (zbit c ^^^ (-1))) else q
def mtks (rw co : Int32) (gf : Nat → Int32) (st : Int64) (q : (Nat → Int32) × Int32) : Nat → (Nat → Int32) × Int32 | 0 => q | k + 1 => mtk rw co gf (mtks rw co gf st q k) (zrem (mdi (mdst st (k + 1))) (rw * co))
def mmk1 (rw co : Int32) (bd : Nat → Int32) : Nat → Int32 := fun k => if k < mN rw co then 0 else bd k
def mmkg (rw co : Int32) (gf : Nat → Int32) (seed : Int32) : Nat → Int32 := fun k => if k < mN rw co then zrem (mdi (mdst seed.toInt64 (k + 1))) 9 else gf k
def mmks (rw co : Int32) (bd gf : Nat → Int32) (seed : Int32) : Nat → Int32 := msB 1 1 (mall0 rw co (mmk1 rw co bd) (mmkg rw co gf seed)) (mmk1 rw co bd)
def mmk (rw co : Int32) (bd gf : Nat → Int32) (seed : Int32) : (Nat → Int32) × Int32 := mtks rw co (mz12 gf) (mdst seed.toInt64 (mN rw co)) (mmks rw co bd gf seed, mall rw co) (mN rw co)
def vs_X5_searches_5 (rw : Int32) (co : Int32) (cl : Int32) (fi : Int32) (st : Int64) (th : Int32) (bd : Nat → Int32) (lf : Nat → Int32) (hf : Nat → Int32) (of : Nat → Int32) (gf : Nat → Int32) (tf : Nat → Int32) (kf : Nat → Int32) (p1 : Int32) (p2 : Int32) (P : Int32 → ((Nat → Int32) × (Nat → Int32) × (Nat → Int32) × (Nat → Int32)) → Prop) (J5 : Int32 → Int32 → (Nat → Int32) → (Nat → Int32) → (Nat → Int32) → (Nat → Int32) → Prop) (J54 : Int32 → Int32 → Int32 → (Nat → Int32) → (Nat → Int32) → (Nat → Int32) → (Nat → Int32) → Prop) (x3 : Int32) (x4 : Int32) (bd' : Nat → Int32) (hf' : Nat → Int32) (of' : Nat → Int32) (tf' : Nat → Int32) : Prop := ((rw * co) ≤ x4 → (J54 x3 0 0 bd' hf' of' tf')) ∧ (¬ (rw * co) ≤ x4 → vp_in x4 12 ∧ ((bd' x4.toNatClampNeg) = 0 → vp_in x3 12 ∧ vp_in x3 12 ∧ ∀ y_37 : Int32, y_37 = x3 + 1 → ∀ y_38 : Int32, y_38 = x4 + 1 → (J5 y_37 y_38 bd' hf' (upd of' x3.toNatClampNeg x4) (upd tf' x3.toNatClampNeg 0))) ∧ (¬ (bd' x4.toNatClampNeg) = 0 → ∀ y_34 : Int32, y_34 = x4 + 1 → (J5 x3 y_34 bd' hf' of' tf')))
def vs_X5_searches_54 (rw : Int32) (co : Int32) (cl : Int32) (fi : Int32) (st : Int64) (th : Int32) (bd : Nat → Int32) (lf : Nat → Int32) (hf : Nat → Int32) (of : Nat → Int32) (gf : Nat → Int32) (tf : Nat → Int32) (kf : Nat → Int32) (p1 : Int32) (p2 : Int32) (P : Int32 → ((Nat → Int32) × (Nat → Int32) × (Nat → Int32) × (Nat → Int32)) → Prop) (J5 : Int32 → Int32 → (Nat → Int32) → (Nat → Int32) → (Nat → Int32) → (Nat → Int32) → Prop) (J54 : Int32 → Int32 → Int32 → (Nat → Int32) → (Nat → Int32) → (Nat → Int32) → (Nat → Int32) → Prop) (x3 : Int32) (x4 : Int32) (x5 : Int32) (bd' : Nat → Int32) (hf' : Nat → Int32) (of' : Nat → Int32) (tf' : Nat → Int32) : Prop := (x5 < 0 → P x4 (bd', hf', of', tf')) ∧ (¬ x5 < 0 → (x5 = x3 → ∀ y_20 : Int32, y_20 = x4 + 1 → (y_20 = p1 → (p2 = 0 → (y_20 = p1 → (mlok of' x3) ∧ (J54 x3 y_20 (-1) (mem bd' of' x3.toNatClampNeg) hf' of' tf')) ∧ (¬ y_20 = p1 → (0 < x5 → vp_in (x5 - 1) 12 ∧ vp_in (of' (x5 - 1).toNatClampNeg) 12) ∧ ∀ y_29 : Int32, y_29 = x5 - 1 → (J54 x3 y_20 y_29 (if 0 < x5 then upd bd' (of' (x5 - 1).toNatClampNeg).toNatClampNeg 0 else bd') hf' of' tf'))) ∧ (¬ p2 = 0 → P y_20 (bd', hf', of', tf'))) ∧ (¬ y_20 = p1 → (y_20 = p1 → (mlok of' x3) ∧ (J54 x3 y_20 (-1) (mem bd' of' x3.toNatClampNeg) hf' of' tf')) ∧ (¬ y_20 = p1 → (0 < x5 → vp_in (x5 - 1) 12 ∧ vp_in (of' (x5 - 1).toNatClampNeg) 12) ∧ ∀ y_24 : Int32, y_24 = x5 - 1 → (J54 x3 y_20 y_24 (if 0 < x5 then upd bd' (of' (x5 - 1).toNatClampNeg).toNatClampNeg 0 else bd') hf' of' tf')))) ∧ (¬ x5 = x3 → vp_in x5 12 ∧ ((tf' x5.toNatClampNeg) = 9 → vp_in x5 12 ∧ (0 < x5 → vp_in (x5 - 1) 12 ∧ vp_in (of' (x5 - 1).toNatClampNeg) 12) ∧ ∀ y_19 : Int32, y_19 = x5 - 1 → (J54 x3 x4 y_19 (if 0 < x5 then upd bd' (of' (x5 - 1).toNatClampNeg).toNatClampNeg 0 else bd') hf' of' (upd tf' x5.toNatClampNeg 0))) ∧ (¬ (tf' x5.toNatClampNeg) = 9 → vp_in x5 12 ∧ vp_in (of' x5.toNatClampNeg) 12 ∧ vp_in x5 12 ∧ ∀ y_8 : Int32, y_8 = (((gf (of' x5.toNatClampNeg : Int32).toNatClampNeg) + (tf' x5.toNatClampNeg)) - ((gf (of' x5.toNatClampNeg : Int32).toNatClampNeg) + (tf' x5.toNatClampNeg)) / 9 * 9) + 1 → vp_in x5 12 ∧ vp_in x5 12 ∧ vp_in x5 12 ∧ (mok rw co bd' ∧ vp_in (of' x5.toNatClampNeg) 12 ∧ vp_in y_8 10) ∧ ((b2i (mft rw co bd' hf' (of' x5.toNatClampNeg) y_8)) = 0 → (J54 x3 x4 x5 bd' (mfth rw co bd' hf' (of' x5.toNatClampNeg)) of' (upd tf' x5.toNatClampNeg ((tf' x5.toNatClampNeg) + 1)))) ∧ (¬ (b2i (mft rw co bd' hf' (of' x5.toNatClampNeg) y_8)) = 0 → vp_in x5 12 ∧ vp_in (of' x5.toNatClampNeg) 12 ∧ ∀ y_16 : Int32, y_16 = x5 + 1 → (J54 x3 x4 y_16 (upd bd' (of' x5.toNatClampNeg : Int32).toNatClampNeg y_8) (mfth rw co bd' hf' (of' x5.toNatClampNeg)) of' (upd tf' x5.toNatClampNeg ((tf' x5.toNatClampNeg) + 1)))))))
def ve_X5_searches (rw : Int32) (co : Int32) (cl : Int32) (fi : Int32) (st : Int64) (th : Int32) (bd : Nat → Int32) (lf : Nat → Int32) (hf : Nat → Int32) (of : Nat → Int32) (gf : Nat → Int32) (tf : Nat → Int32) (kf : Nat → Int32) (p1 : Int32) (p2 : Int32) (P : Int32 → ((Nat → Int32) × (Nat → Int32) × (Nat → Int32) × (Nat → Int32)) → Prop) (J5 : Int32 → Int32 → (Nat → Int32) → (Nat → Int32) → (Nat → Int32) → (Nat → Int32) → Prop) (J54 : Int32 → Int32 → Int32 → (Nat → Int32) → (Nat → Int32) → (Nat → Int32) → (Nat → Int32) → Prop) : Prop := (J5 0 0 bd hf of tf)
def ve_X5_solutions (rw : Int32) (co : Int32) (cl : Int32) (fi : Int32) (st : Int64) (th : Int32) (bd : Nat → Int32) (lf : Nat → Int32) (hf : Nat → Int32) (of : Nat → Int32) (gf : Nat → Int32) (tf : Nat → Int32) (kf : Nat → Int32) (p1 : Int32) (P : Int32 → (Int32 × (Nat → Int32) × (Nat → Int32) × (Nat → Int32) × (Nat → Int32)) → Prop)  : Prop := ((b2i (min3 p1 1 5)) = 0 → P 0 (1, bd, hf, of, tf)) ∧ (¬ (b2i (min3 p1 1 5)) = 0 → (mspre rw co bd gf p1) ∧ ∀ (hf_5 : Nat → Int32) (of_5 : Nat → Int32) (tf_5 : Nat → Int32), P (msR p1 (mall0 rw co bd gf)) (0, msB p1 0 (mall0 rw co bd gf) bd, hf_5, of_5, tf_5))
def vs_X5_make_26 (rw : Int32) (co : Int32) (cl : Int32) (fi : Int32) (st : Int64) (th : Int32) (bd : Nat → Int32) (lf : Nat → Int32) (hf : Nat → Int32) (of : Nat → Int32) (gf : Nat → Int32) (tf : Nat → Int32) (kf : Nat → Int32) (p1 : Int32) (P : Int32 → (Int32 × (Nat → Int32) × Int32 × Int32 × Int64 × (Nat → Int32) × (Nat → Int32) × (Nat → Int32) × (Nat → Int32)) → Prop) (J26 : Int32 → Int32 → (Nat → Int32) → Int32 → Int32 → Int64 → (Nat → Int32) → (Nat → Int32) → (Nat → Int32) → (Nat → Int32) → Prop) (J86 : Int32 → Int32 → (Nat → Int32) → Int32 → Int32 → Int64 → (Nat → Int32) → (Nat → Int32) → (Nat → Int32) → (Nat → Int32) → Prop) (J107 : Int32 → Int32 → (Nat → Int32) → Int32 → Int32 → Int64 → (Nat → Int32) → (Nat → Int32) → (Nat → Int32) → (Nat → Int32) → Prop) (x2 : Int32) (th' : Int32) (bd' : Nat → Int32) (cl' : Int32) (fi' : Int32) (st' : Int64) (gf' : Nat → Int32) (hf' : Nat → Int32) (of' : Nat → Int32) (tf' : Nat → Int32) : Prop := ((rw * co) ≤ x2 → (mspre rw co bd' gf' 1) ∧ ∀ (hf_28 : Nat → Int32) (of_28 : Nat → Int32) (tf_28 : Nat → Int32), (J86 0 th' (msB 1 1 (mall0 rw co bd' gf') bd') ((1 <<< ((rw * co) &&& 31)) - 1) 0 st' gf' hf_28 of_28 tf_28)) ∧ (¬ (rw * co) ≤ x2 → vp_in x2 12 ∧ vp_in x2 12 ∧ ∀ y_31 : Int32, y_31 = x2 + 1 → (J26 y_31 th' (upd bd' x2.toNatClampNeg 0) cl' fi' (mdr st') (upd gf' x2.toNatClampNeg ((mdi (mdr st')) - (mdi (mdr st')) / 9 * 9)) hf' of' tf'))
def vs_X5_make_86 (rw : Int32) (co : Int32) (cl : Int32) (fi : Int32) (st : Int64) (th : Int32) (bd : Nat → Int32) (lf : Nat → Int32) (hf : Nat → Int32) (of : Nat → Int32) (gf : Nat → Int32) (tf : Nat → Int32) (kf : Nat → Int32) (p1 : Int32) (P : Int32 → (Int32 × (Nat → Int32) × Int32 × Int32 × Int64 × (Nat → Int32) × (Nat → Int32) × (Nat → Int32) × (Nat → Int32)) → Prop) (J26 : Int32 → Int32 → (Nat → Int32) → Int32 → Int32 → Int64 → (Nat → Int32) → (Nat → Int32) → (Nat → Int32) → (Nat → Int32) → Prop) (J86 : Int32 → Int32 → (Nat → Int32) → Int32 → Int32 → Int64 → (Nat → Int32) → (Nat → Int32) → (Nat → Int32) → (Nat → Int32) → Prop) (J107 : Int32 → Int32 → (Nat → Int32) → Int32 → Int32 → Int64 → (Nat → Int32) → (Nat → Int32) → (Nat → Int32) → (Nat → Int32) → Prop) (x2 : Int32) (th' : Int32) (bd' : Nat → Int32) (cl' : Int32) (fi' : Int32) (st' : Int64) (gf' : Nat → Int32) (hf' : Nat → Int32) (of' : Nat → Int32) (tf' : Nat → Int32) : Prop := (12 ≤ x2 → (J107 0 th' bd' cl' fi' st' gf' hf' of' tf')) ∧ (¬ 12 ≤ x2 → vp_in x2 12 ∧ ∀ y_25 : Int32, y_25 = x2 + 1 → (J86 y_25 th' bd' cl' fi' st' (upd gf' x2.toNatClampNeg 0) hf' of' tf'))
def vs_X5_make_107 (rw : Int32) (co : Int32) (cl : Int32) (fi : Int32) (st : Int64) (th : Int32) (bd : Nat → Int32) (lf : Nat → Int32) (hf : Nat → Int32) (of : Nat → Int32) (gf : Nat → Int32) (tf : Nat → Int32) (kf : Nat → Int32) (p1 : Int32) (P : Int32 → (Int32 × (Nat → Int32) × Int32 × Int32 × Int64 × (Nat → Int32) × (Nat → Int32) × (Nat → Int32) × (Nat → Int32)) → Prop) (J26 : Int32 → Int32 → (Nat → Int32) → Int32 → Int32 → Int64 → (Nat → Int32) → (Nat → Int32) → (Nat → Int32) → (Nat → Int32) → Prop) (J86 : Int32 → Int32 → (Nat → Int32) → Int32 → Int32 → Int64 → (Nat → Int32) → (Nat → Int32) → (Nat → Int32) → (Nat → Int32) → Prop) (J107 : Int32 → Int32 → (Nat → Int32) → Int32 → Int32 → Int64 → (Nat → Int32) → (Nat → Int32) → (Nat → Int32) → (Nat → Int32) → Prop) (x2 : Int32) (th' : Int32) (bd' : Nat → Int32) (cl' : Int32) (fi' : Int32) (st' : Int64) (gf' : Nat → Int32) (hf' : Nat → Int32) (of' : Nat → Int32) (tf' : Nat → Int32) : Prop := ((rw * co) ≤ x2 → P (mcn cl' 12) (th', bd', cl', fi', st', gf', hf', of', tf')) ∧ (¬ (rw * co) ≤ x2 → ¬ (rw * co) = 0 ∧ ∀ y_3 : Int32, y_3 = (mdi (mdr st')) - (mdi (mdr st')) / (rw * co) * (rw * co) → vp_in y_3 12 ∧ ∀ y_5 : Int32, y_5 = bd' y_3.toNatClampNeg → vp_in y_3 12 ∧ ((b2i (mhas cl' y_3)) = 0 → vp_in y_3 12 ∧ ∀ y_11 : Int32, y_11 = x2 + 1 → (J107 y_11 th' (upd (upd bd' y_3.toNatClampNeg 0) y_3.toNatClampNeg y_5) cl' fi' (mdr st') gf' hf' of' tf')) ∧ (¬ (b2i (mhas cl' y_3)) = 0 → (mspre rw co (upd bd' y_3.toNatClampNeg 0) gf' 2) ∧ ∀ (hf_13 : Nat → Int32) (of_13 : Nat → Int32) (tf_13 : Nat → Int32), ((msR 2 (mall0 rw co (upd bd' y_3.toNatClampNeg 0) gf')) = 1 → vp_in y_3 12 ∧ ∀ y_22 : Int32, y_22 = x2 + 1 → (J107 y_22 th' (upd (msB 2 0 (mall0 rw co (upd bd' y_3.toNatClampNeg 0) gf') (upd bd' y_3.toNatClampNeg 0)) y_3.toNatClampNeg 0) (cl' &&& ((1 <<< (y_3 &&& 31)) ^^^ (-1))) fi' (mdr st') gf' hf_13 of_13 tf_13)) ∧ (¬ (msR 2 (mall0 rw co (upd bd' y_3.toNatClampNeg 0) gf')) = 1 → vp_in y_3 12 ∧ ∀ y_18 : Int32, y_18 = x2 + 1 → (J107 y_18 th' (upd (msB 2 0 (mall0 rw co (upd bd' y_3.toNatClampNeg 0) gf') (upd bd' y_3.toNatClampNeg 0)) y_3.toNatClampNeg y_5) cl' fi' (mdr st') gf' hf_13 of_13 tf_13))))
def ve_X5_make (rw : Int32) (co : Int32) (cl : Int32) (fi : Int32) (st : Int64) (th : Int32) (bd : Nat → Int32) (lf : Nat → Int32) (hf : Nat → Int32) (of : Nat → Int32) (gf : Nat → Int32) (tf : Nat → Int32) (kf : Nat → Int32) (p1 : Int32) (P : Int32 → (Int32 × (Nat → Int32) × Int32 × Int32 × Int64 × (Nat → Int32) × (Nat → Int32) × (Nat → Int32) × (Nat → Int32)) → Prop) (J26 : Int32 → Int32 → (Nat → Int32) → Int32 → Int32 → Int64 → (Nat → Int32) → (Nat → Int32) → (Nat → Int32) → (Nat → Int32) → Prop) (J86 : Int32 → Int32 → (Nat → Int32) → Int32 → Int32 → Int64 → (Nat → Int32) → (Nat → Int32) → (Nat → Int32) → (Nat → Int32) → Prop) (J107 : Int32 → Int32 → (Nat → Int32) → Int32 → Int32 → Int64 → (Nat → Int32) → (Nat → Int32) → (Nat → Int32) → (Nat → Int32) → Prop) : Prop := (0 ≤ p1 → (J26 0 0 bd cl fi (p1.toInt64) gf hf of tf)) ∧ (¬ 0 ≤ p1 → P 0 (1, bd, cl, fi, st, gf, hf, of, tf))
theorem msF_hf {rw co : Int32} {bd h1 h2 : Nat → Int32} (hok : mok rw co bd) (hh : ∀ j, j < 10 → h1 j = h2 j) : ∀ j, j ≤ mN rw co → msF rw co bd h1 (mN rw co) j = msF rw co bd h2 (mN rw co) j
  | 0, _ => rfl
  | j + 1, hj => by
    have hN := mok_N hok
    have e1 : (nI (mN rw co - (j + 1))).toNatClampNeg = mN rw co - (j + 1) := nI_clamp (by omega)
    obtain ⟨b, hb1, hb2⟩ := vp_10 (hok.2 (mN rw co - (j + 1)) (by omega))
    have eb : (nI b).toNatClampNeg = b := nI_clamp (by omega)
    simp only [msF]
    rw [msF_hf hok hh j (by omega)]
    have : mcond rw co bd h1 (nI (mN rw co - (j + 1))) = mcond rw co bd h2 (nI (mN rw co - (j + 1))) := by
      unfold mcond mfo mro
      rw [e1, hb2, eb, hh b hb1, hh 0 (by decide)]
    rw [this]
theorem mso_hf {rw co : Int32} {bd h1 h2 : Nat → Int32} (hok : mok rw co bd) : mso rw co bd h1 = mso rw co bd h2 := by
  unfold mso
  exact msF_hf hok (fun j hj => by simp [mlk, hj]) _ (Nat.le_refl _)
theorem mft_hf {rw co : Int32} {bd h1 h2 : Nat → Int32} (hok : mok rw co bd) {c n : Int32} (hn : vp_in n 10) : mft rw co bd h1 c n = mft rw co bd h2 c n := by
  unfold mft
  rw [mso_hf (mok_upd hok hn)]
theorem vp_9 {x : Int32} (h : vp_in x 9) : ∃ j : Nat, j < 9 ∧ x = nI j := vp_in_of h (by decide)
theorem mnum_eq {gf : Nat → Int32} {c g t : Nat} (hg : gf c = nI g) (h1 : g < 9) (h2 : t < 9) : mnum gf c t = nI ((g + t) % 9 + 1) := by
  unfold mnum zrem
  rw [hg, nI_add]
  have : (9 : Int32) = nI 9 := rfl
  rw [this, pk_rem (by omega) (by decide) (by decide), nI_1]
theorem mnum_in {gf : Nat → Int32} {c t : Nat} (hg : vp_in (gf c) 9) (h2 : t < 9) : vp_in (mnum gf c t) 10 := by
  obtain ⟨g, h1, hg⟩ := vp_9 hg
  rw [mnum_eq hg h1 h2]
  exact vp_in_nI (by omega) (by decide)
theorem mopn_len (bd : Nat → Int32) : ∀ k, (mopn bd k).length ≤ k
  | 0 => Nat.le_refl 0
  | k + 1 => by
    have := mopn_len bd k
    simp only [mopn]
    split
    · rw [List.length_append]; simp; omega
    · omega
theorem mopn_mem (bd : Nat → Int32) : ∀ k i, i ∈ mopn bd k ↔ i < k ∧ bd i = 0
  | 0, i => by simp [mopn]
  | k + 1, i => by
    have := mopn_mem bd k i
    simp only [mopn]
    split
    · next h =>
      rw [List.mem_append, this, List.mem_singleton]
      constructor
      · rintro (⟨a, b⟩ | rfl)
        · exact ⟨by omega, b⟩
        · exact ⟨by omega, h⟩
      · rintro ⟨a, b⟩
        by_cases e : i = k
        · exact Or.inr e
        · exact Or.inl ⟨by omega, b⟩
    · next h =>
      rw [this]
      constructor
      · rintro ⟨a, b⟩; exact ⟨by omega, b⟩
      · rintro ⟨a, b⟩
        refine ⟨?_, b⟩
        by_cases e : i = k
        · subst e; exact absurd b h
        · omega
theorem mopn_nodup (bd : Nat → Int32) : ∀ k, (mopn bd k).Nodup
  | 0 => List.nodup_nil
  | k + 1 => by
    simp only [mopn]
    split
    · rw [List.nodup_append]
      refine ⟨mopn_nodup bd k, by simp, ?_⟩
      intro a ha b hb
      rw [mopn_mem] at ha
      rw [List.mem_singleton] at hb
      omega
    · exact mopn_nodup bd k
def mpb (gf : Nat → Int32) (LL : List Nat) (tn : Nat → Nat) (b : Nat → Int32) : Nat → (Nat → Int32) | 0 => b | i + 1 => upd (mpb gf LL tn b i) (LL.getD i 0) (mnum gf (LL.getD i 0) (tn i - 1))
def mGt (rw co : Int32) (gf : Nat → Int32) (LL : List Nat) (tn : Nat → Nat) (b : Nat → Int32) (a t : Nat) : List (Nat → Int32) := if mft0 rw co (mpb gf LL tn b a) (nI (LL.getD a 0)) (mnum gf (LL.getD a 0) t) then msl rw co gf (LL.drop (a + 1)) (upd (mpb gf LL tn b a) (LL.getD a 0) (mnum gf (LL.getD a 0) t)) else []
def mlev (rw co : Int32) (gf : Nat → Int32) (LL : List Nat) (tn : Nat → Nat) (b : Nat → Int32) (a : Nat) : List (Nat → Int32) := tcat (mGt rw co gf LL tn b a) (9 - tn a)
def mrest (rw co : Int32) (gf : Nat → Int32) (LL : List Nat) (tn : Nat → Nat) (b : Nat → Int32) : Nat → List (Nat → Int32) | 0 => [] | i + 1 => mlev rw co gf LL tn b i ++ mrest rw co gf LL tn b i
def mcurL (rw co : Int32) (gf : Nat → Int32) (LL : List Nat) (tn : Nat → Nat) (b : Nat → Int32) (a : Nat) : List (Nat → Int32) := if a = LL.length then [mpb gf LL tn b a] else mlev rw co gf LL tn b a
theorem mpb_congr {gf : Nat → Int32} {LL : List Nat} {t1 t2 : Nat → Nat} {b : Nat → Int32} : ∀ a, (∀ i, i < a → t1 i = t2 i) → mpb gf LL t1 b a = mpb gf LL t2 b a
  | 0, _ => rfl
  | a + 1, h => by simp only [mpb]; rw [mpb_congr a (fun i hi => h i (by omega)), h a (by omega)]
theorem mGt_congr {rw co : Int32} {gf : Nat → Int32} {LL : List Nat} {t1 t2 : Nat → Nat} {b : Nat → Int32} {a : Nat} (h : ∀ i, i < a → t1 i = t2 i) : mGt rw co gf LL t1 b a = mGt rw co gf LL t2 b a := by
  funext t; unfold mGt; rw [mpb_congr a h]
theorem mrest_congr {rw co : Int32} {gf : Nat → Int32} {LL : List Nat} {t1 t2 : Nat → Nat} {b : Nat → Int32} : ∀ a, (∀ i, i < a → t1 i = t2 i) → mrest rw co gf LL t1 b a = mrest rw co gf LL t2 b a
  | 0, _ => rfl
  | a + 1, h => by
    simp only [mrest, mlev]
    rw [mrest_congr a (fun i hi => h i (by omega)), mGt_congr (fun i hi => h i (by omega)), h a (by omega)]
theorem mcurL_fresh {rw co : Int32} {gf : Nat → Int32} {LL : List Nat} {tn : Nat → Nat} {b : Nat → Int32} {a : Nat} (ha : a ≤ LL.length) (h0 : a < LL.length → tn a = 0) : mcurL rw co gf LL tn b a = msl rw co gf (LL.drop a) (mpb gf LL tn b a) := by
  unfold mcurL
  by_cases e : a = LL.length
  · rw [if_pos e, e, List.drop_length]; rfl
  · have hl : a < LL.length := by omega
    rw [if_neg e, List.drop_eq_getElem_cons hl]
    simp only [msl, mlev, h0 hl]
    have : LL[a] = LL.getD a 0 := by simp [List.getD_eq_getElem?_getD, List.getElem?_eq_getElem hl]
    rw [this]
    rfl
theorem mpb_at {gf : Nat → Int32} {LL : List Nat} {tn : Nat → Nat} {b : Nat → Int32} : ∀ a, a ≤ LL.length → ∀ c, (∀ i, i < a → LL.getD i 0 ≠ c) → mpb gf LL tn b a c = b c
  | 0, _, _, _ => rfl
  | a + 1, ha, c, h => by
    simp only [mpb, upd]
    rw [if_neg (fun e => h a (by omega) e.symm)]
    exact mpb_at a (by omega) c (fun i hi => h i (by omega))
theorem getD_inj {LL : List Nat} (hn : LL.Nodup) {i j : Nat} (hi : i < LL.length) (hj : j < LL.length) (h : LL.getD i 0 = LL.getD j 0) : i = j := by
  simp only [List.getD_eq_getElem?_getD, List.getElem?_eq_getElem hi, List.getElem?_eq_getElem hj, Option.getD_some] at h
  exact (List.getElem_inj hn).mp h
theorem getD_mem {LL : List Nat} {i : Nat} (hi : i < LL.length) : LL.getD i 0 ∈ LL := by
  simp only [List.getD_eq_getElem?_getD, List.getElem?_eq_getElem hi, Option.getD_some]
  exact List.getElem_mem hi
theorem mpb_back {gf : Nat → Int32} {LL : List Nat} {tn : Nat → Nat} {b : Nat → Int32} (hn : LL.Nodup) (hz : ∀ c, c ∈ LL → b c = 0) {a : Nat} (ha : a < LL.length) : upd (mpb gf LL tn b (a + 1)) (LL.getD a 0) 0 = mpb gf LL tn b a := by
  simp only [mpb]
  apply upd_back
  rw [mpb_at a (by omega) _ (fun i hi e => absurd (getD_inj hn (by omega) ha e) (by omega))]
  exact hz _ (getD_mem ha)
theorem mem_all {LL : List Nat} {g of : Nat → Int32} (hof : ∀ a, a < LL.length → of a = nI (LL.getD a 0)) (hs : ∀ c, c ∈ LL → c < 2 ^ 31) : ∀ k, k ≤ LL.length → mem g of k = fun c => if c ∈ LL.take k then 0 else g c
  | 0, _ => by funext c; simp [mem]
  | k + 1, hk => by
    funext c
    have hm := getD_mem (LL := LL) (i := k) (by omega)
    have e2 : LL.take (k + 1) = LL.take k ++ [LL.getD k 0] := by
      rw [List.take_succ]; simp [List.getD_eq_getElem?_getD, List.getElem?_eq_getElem (show k < LL.length by omega)]
    simp only [mem]
    rw [mem_all (g := g) hof hs k (by omega), hof k (by omega), nI_clamp (hs _ hm), e2]
    simp only [upd, List.mem_append, List.mem_singleton]
    by_cases q : c = LL.getD k 0
    · simp [q]
    · by_cases z : c ∈ LL.take k <;> simp [q, z]
theorem mem_back {gf : Nat → Int32} {LL : List Nat} {tn : Nat → Nat} {b of : Nat → Int32} (hof : ∀ a, a < LL.length → of a = nI (LL.getD a 0)) (hs : ∀ c, c ∈ LL → c < 2 ^ 31) (hz : ∀ c, c ∈ LL → b c = 0) : mem (mpb gf LL tn b LL.length) of LL.length = b := by
  rw [mem_all (g := mpb gf LL tn b LL.length) hof hs _ (Nat.le_refl _)]
  funext c
  rw [List.take_length]
  by_cases h : c ∈ LL
  · simp [h, hz c h]
  · simp only [h, if_false]
    exact mpb_at _ (Nat.le_refl _) c (fun i hi e => h (e ▸ getD_mem hi))
def mwk : Nat → Nat | 0 => 1 | d + 1 => 9 * (mwk d + 1) + 1
def mcost (len : Nat) (tn : Nat → Nat) (i : Nat) : Nat := (9 - tn i) * (mwk (len - i - 1) + 1) + 1
def msum (len : Nat) (tn : Nat → Nat) : Nat → Nat | 0 => 0 | i + 1 => msum len tn i + mcost len tn i
def mmu (len : Nat) (tn : Nat → Nat) (a : Nat) : Nat := msum len tn a + (if a = len then 1 else mcost len tn a)
theorem msum_congr {len : Nat} {t1 t2 : Nat → Nat} : ∀ a, (∀ i, i < a → t1 i = t2 i) → msum len t1 a = msum len t2 a
  | 0, _ => rfl
  | a + 1, h => by simp only [msum, mcost]; rw [msum_congr a (fun i hi => h i (by omega)), h a (by omega)]
theorem mmu_fresh {len : Nat} {tn : Nat → Nat} {a : Nat} (ha : a ≤ len) (h0 : a < len → tn a = 0) : mmu len tn a = msum len tn a + mwk (len - a) := by
  unfold mmu
  by_cases e : a = len
  · rw [if_pos e, e, Nat.sub_self]; rfl
  · rw [if_neg e]
    unfold mcost
    rw [h0 (by omega)]
    obtain ⟨d, hd⟩ : ∃ d, len - a = d + 1 := ⟨len - a - 1, by omega⟩
    rw [show len - a - 1 = d by omega, hd]
    rfl
theorem mok_mpb {rw co : Int32} {gf : Nat → Int32} {LL : List Nat} {tn : Nat → Nat} {b : Nat → Int32} (hok : mok rw co b) (hg : ∀ k, k < 12 → vp_in (gf k) 9) (hLL : ∀ c, c ∈ LL → c < 12) : ∀ a, a ≤ LL.length → (∀ i, i < a → tn i ≤ 9 ∧ 1 ≤ tn i) → mok rw co (mpb gf LL tn b a)
  | 0, _, _ => hok
  | a + 1, ha, h => by
    simp only [mpb]
    have := h a (by omega)
    exact mok_upd (mok_mpb hok hg hLL a (by omega) (fun i hi => h i (by omega))) (mnum_in (hg _ (hLL _ (getD_mem (by omega)))) (by omega))
def mtn (tf : Nat → Int32) : Nat → Nat := fun i => (tf i).toNatClampNeg
def I_X5_searches_5 (rw : Int32) (co : Int32) (cl : Int32) (fi : Int32) (st : Int64) (th : Int32) (bd : Nat → Int32) (lf : Nat → Int32) (hf : Nat → Int32) (of : Nat → Int32) (gf : Nat → Int32) (tf : Nat → Int32) (kf : Nat → Int32) (p1 : Int32) (p2 : Int32) : Int32 → Int32 → (Nat → Int32) → (Nat → Int32) → (Nat → Int32) → (Nat → Int32) → Prop := fun x3 x4 bd' hf' of' tf' => mspre rw co bd gf p1 ∧ bd' = bd ∧ ∃ k : Nat, k ≤ mN rw co ∧ x4 = nI k ∧ x3 = nI (mopn bd k).length ∧ (∀ a, a < (mopn bd k).length → of' a = nI ((mopn bd k).getD a 0)) ∧ ∀ a, a < (mopn bd k).length → tf' a = 0
def mu_X5_searches_5 (rw : Int32) (co : Int32) (cl : Int32) (fi : Int32) (st : Int64) (th : Int32) (bd : Nat → Int32) (lf : Nat → Int32) (hf : Nat → Int32) (of : Nat → Int32) (gf : Nat → Int32) (tf : Nat → Int32) (kf : Nat → Int32) (p1 : Int32) (p2 : Int32) : Int32 → Int32 → (Nat → Int32) → (Nat → Int32) → (Nat → Int32) → (Nat → Int32) → Nat := fun x3 x4 bd' hf' of' tf' => mN rw co - x4.toNatClampNeg
/-- the state of the search: depth a, n boards found -/
def mSt (rw co : Int32) (gf bd : Nat → Int32) (q : Nat) (LL : List Nat) (tn : Nat → Nat) (bd' : Nat → Int32) (a n : Nat) : Prop :=
  a ≤ LL.length ∧ n < q ∧ (∀ i, i < a → 1 ≤ tn i) ∧ (∀ i, a < i → i < LL.length → tn i = 0) ∧ bd' = mpb gf LL tn bd a ∧ ∃ F : List (Nat → Int32), F.length = n ∧ msl rw co gf LL bd = F ++ (mcurL rw co gf LL tn bd a ++ mrest rw co gf LL tn bd a)
def I_X5_searches_54 (rw : Int32) (co : Int32) (cl : Int32) (fi : Int32) (st : Int64) (th : Int32) (bd : Nat → Int32) (lf : Nat → Int32) (hf : Nat → Int32) (of : Nat → Int32) (gf : Nat → Int32) (tf : Nat → Int32) (kf : Nat → Int32) (p1 : Int32) (p2 : Int32) : Int32 → Int32 → Int32 → (Nat → Int32) → (Nat → Int32) → (Nat → Int32) → (Nat → Int32) → Prop := fun x3 x4 x5 bd' hf' of' tf' => mspre rw co bd gf p1 ∧ x3 = nI (mopn bd (mN rw co)).length ∧ (∀ a, a < (mopn bd (mN rw co)).length → of' a = nI ((mopn bd (mN rw co)).getD a 0)) ∧ (∀ a, a < (mopn bd (mN rw co)).length → ∃ t : Nat, t ≤ 9 ∧ tf' a = nI t) ∧ ((x5 = -1 ∧ bd' = bd ∧ x4 = msR p1 (mall0 rw co bd gf) ∧ (p2 = 0 ∨ (mall0 rw co bd gf).length < p1.toNatClampNeg)) ∨ ∃ a n : Nat, x5 = nI a ∧ x4 = nI n ∧ mSt rw co gf bd p1.toNatClampNeg (mopn bd (mN rw co)) (mtn tf') bd' a n)
def mu_X5_searches_54 (rw : Int32) (co : Int32) (cl : Int32) (fi : Int32) (st : Int64) (th : Int32) (bd : Nat → Int32) (lf : Nat → Int32) (hf : Nat → Int32) (of : Nat → Int32) (gf : Nat → Int32) (tf : Nat → Int32) (kf : Nat → Int32) (p1 : Int32) (p2 : Int32) : Int32 → Int32 → Int32 → (Nat → Int32) → (Nat → Int32) → (Nat → Int32) → (Nat → Int32) → Nat := fun x3 x4 x5 bd' hf' of' tf' => if x5 < 0 then 0 else mmu (mopn bd (mN rw co)).length (mtn tf') x5.toNatClampNeg
theorem pl_X5_searches_5 (rw : Int32) (co : Int32) (cl : Int32) (fi : Int32) (st : Int64) (th : Int32) (bd : Nat → Int32) (lf : Nat → Int32) (hf : Nat → Int32) (of : Nat → Int32) (gf : Nat → Int32) (tf : Nat → Int32) (kf : Nat → Int32) (p1 : Int32) (p2 : Int32) (hpre : mspre rw co bd gf p1) : ∀ (x3 : Int32) (x4 : Int32) (bd' : Nat → Int32) (hf' : Nat → Int32) (of' : Nat → Int32) (tf' : Nat → Int32), I_X5_searches_5 rw co cl fi st th bd lf hf of gf tf kf p1 p2 x3 x4 bd' hf' of' tf' → vs_X5_searches_5 rw co cl fi st th bd lf hf of gf tf kf p1 p2 (fun (r : Int32) (u : (Nat → Int32) × (Nat → Int32) × (Nat → Int32) × (Nat → Int32)) => r = msR p1 (mall0 rw co bd gf) ∧ u.1 = msB p1 p2 (mall0 rw co bd gf) bd) (fun (x39 : Int32) (x49 : Int32) (bd9 : Nat → Int32) (hf9 : Nat → Int32) (of9 : Nat → Int32) (tf9 : Nat → Int32) => I_X5_searches_5 rw co cl fi st th bd lf hf of gf tf kf p1 p2 x39 x49 bd9 hf9 of9 tf9 ∧ mu_X5_searches_5 rw co cl fi st th bd lf hf of gf tf kf p1 p2 x39 x49 bd9 hf9 of9 tf9 < mu_X5_searches_5 rw co cl fi st th bd lf hf of gf tf kf p1 p2 x3 x4 bd' hf' of' tf') (I_X5_searches_54 rw co cl fi st th bd lf hf of gf tf kf p1 p2) x3 x4 bd' hf' of' tf' := by
  rintro x3 x4 bd' hf' of' tf' ⟨hp, rfl, k, hk, rfl, rfl, h1, h2⟩
  have hok := hp.1
  have hN := mok_N hok
  have hmN : mN rw co = (rw * co).toNatClampNeg := rfl
  have hlen := mopn_len bd' k
  refine ⟨fun c => ?_, fun c => ?_⟩
  · rw [cl_le _ (by omega)] at c
    obtain rfl : k = mN rw co := by omega
    obtain ⟨-, -, q, hq1, hq2, rfl⟩ := id hp
    refine ⟨hp, rfl, h1, fun a ha => ⟨0, by decide, h2 a ha⟩, Or.inr ⟨0, 0, rfl, rfl, Nat.zero_le _, ?_, fun i hi => absurd hi (Nat.not_lt_zero _), fun i _ hi => ?_, rfl, [], rfl, ?_⟩⟩
    · rw [nI_clamp (by omega)]; omega
    · show (tf' i).toNatClampNeg = 0
      rw [h2 i hi]; rfl
    · rw [mcurL_fresh (Nat.zero_le _) (fun hl => by show (tf' 0).toNatClampNeg = 0; rw [h2 0 hl]; rfl)]
      simp [mrest, mpb]
  · rw [cl_le _ (by omega)] at c
    have c : k < mN rw co := by omega
    have hv : vp_in (nI k) 12 := vp_in_nI (by omega) (by decide)
    have hv2 : vp_in (nI (mopn bd' k).length) 12 := vp_in_nI (by omega) (by decide)
    have e1 : (nI k).toNatClampNeg = k := nI_clamp (by omega)
    have e2 : (nI (mopn bd' k).length).toNatClampNeg = (mopn bd' k).length := nI_clamp (by omega)
    rw [e1, e2]
    refine ⟨hv, fun c2 => ⟨hv2, hv2, ?_⟩, fun c2 => ?_⟩
    · rintro y rfl y2 rfl
      have eo : mopn bd' (k + 1) = mopn bd' k ++ [k] := by simp [mopn, c2]
      refine ⟨⟨hp, rfl, k + 1, c, nI_1 k, ?_, ?_, ?_⟩, hmu _ c (by omega)⟩
      · rw [eo, List.length_append, nI_1]; rfl
      · intro a ha
        rw [eo] at ha ⊢
        simp only [upd]
        by_cases q : a = (mopn bd' k).length
        · subst q; simp [List.getD_eq_getElem?_getD]
        · rw [List.length_append] at ha
          have ha : a < (mopn bd' k).length := by simp at ha; omega
          rw [if_neg q, h1 a ha]
          simp [List.getD_eq_getElem?_getD, List.getElem?_append_left ha]
      · intro a ha
        rw [eo, List.length_append] at ha
        simp only [upd]
        by_cases q : a = (mopn bd' k).length
        · simp [q]
        · rw [if_neg q]; exact h2 a (by simp at ha; omega)
    · rintro y rfl
      have eo : mopn bd' (k + 1) = mopn bd' k := by simp [mopn, c2]
      exact ⟨⟨hp, rfl, k + 1, c, nI_1 k, by rw [eo], by rw [eo]; exact h1, by rw [eo]; exact h2⟩, hmu _ c (by omega)⟩
theorem mtn_upd (tf : Nat → Int32) (a : Nat) (t : Nat) (ht : t < 2 ^ 31) (i : Nat) : mtn (upd tf a (nI t)) i = if i = a then t else mtn tf i := by
  unfold mtn upd
  split
  · exact nI_clamp ht
  · rfl
/-- one level up again -/
theorem mSt_back {rw co : Int32} {gf bd : Nat → Int32} {q : Nat} {LL : List Nat} {tn tn' : Nat → Nat} {bd' : Nat → Int32} {a n' : Nat} (hnd : LL.Nodup) (hz : ∀ c, c ∈ LL → bd c = 0) (ha : a + 1 ≤ LL.length) (ht1 : ∀ i, i < a + 1 → tn i = tn' i) (h1 : ∀ i, i < a + 1 → 1 ≤ tn' i) (h0 : ∀ i, a < i → i < LL.length → tn' i = 0)
    (hb : bd' = mpb gf LL tn bd (a + 1)) (hq : n' < q) {F : List (Nat → Int32)} (hF : F.length = n') (hL : msl rw co gf LL bd = F ++ mrest rw co gf LL tn bd (a + 1)) : mSt rw co gf bd q LL tn' (upd bd' (LL.getD a 0) 0) a n' := by
  have e := mpb_congr (gf := gf) (LL := LL) (b := bd) (a + 1) ht1
  refine ⟨by omega, hq, fun i hi => h1 i (by omega), h0, ?_, F, hF, ?_⟩
  · rw [hb, e]; exact mpb_back hnd hz (by omega)
  · rw [hL, mrest_congr (a + 1) ht1]
    simp only [mrest, mcurL, if_neg (show ¬ a = LL.length by omega)]
theorem mmu_back {len : Nat} {t1 t2 : Nat → Nat} {a : Nat} (ha : a + 1 ≤ len) (h : ∀ i, i < a + 1 → t1 i = t2 i) : mmu len t2 a < mmu len t1 (a + 1) := by
  unfold mmu
  rw [if_neg (show ¬ a = len by omega)]
  have e : msum len t1 (a + 1) = msum len t2 a + mcost len t2 a := by rw [msum_congr (a + 1) h]; rfl
  rw [e]
  split
  · omega
  · unfold mcost; omega
theorem pl_X5_searches_54 (rw : Int32) (co : Int32) (cl : Int32) (fi : Int32) (st : Int64) (th : Int32) (bd : Nat → Int32) (lf : Nat → Int32) (hf : Nat → Int32) (of : Nat → Int32) (gf : Nat → Int32) (tf : Nat → Int32) (kf : Nat → Int32) (p1 : Int32) (p2 : Int32) (hpre : mspre rw co bd gf p1) : ∀ (x3 : Int32) (x4 : Int32) (x5 : Int32) (bd' : Nat → Int32) (hf' : Nat → Int32) (of' : Nat → Int32) (tf' : Nat → Int32), I_X5_searches_54 rw co cl fi st th bd lf hf of gf tf kf p1 p2 x3 x4 x5 bd' hf' of' tf' → vs_X5_searches_54 rw co cl fi st th bd lf hf of gf tf kf p1 p2 (fun (r : Int32) (u : (Nat → Int32) × (Nat → Int32) × (Nat → Int32) × (Nat → Int32)) => r = msR p1 (mall0 rw co bd gf) ∧ u.1 = msB p1 p2 (mall0 rw co bd gf) bd) (I_X5_searches_5 rw co cl fi st th bd lf hf of gf tf kf p1 p2) (fun (x39 : Int32) (x49 : Int32) (x59 : Int32) (bd9 : Nat → Int32) (hf9 : Nat → Int32) (of9 : Nat → Int32) (tf9 : Nat → Int32) => I_X5_searches_54 rw co cl fi st th bd lf hf of gf tf kf p1 p2 x39 x49 x59 bd9 hf9 of9 tf9 ∧ mu_X5_searches_54 rw co cl fi st th bd lf hf of gf tf kf p1 p2 x39 x49 x59 bd9 hf9 of9 tf9 < mu_X5_searches_54 rw co cl fi st th bd lf hf of gf tf kf p1 p2 x3 x4 x5 bd' hf' of' tf') x3 x4 x5 bd' hf' of' tf' := by
  rintro x3 x4 x5 bd' hf' of' tf' ⟨hp, rfl, hof, htf, hst⟩
  obtain ⟨hok, hg, q, hq1, hq2, rfl⟩ := id hp
  have hN := mok_N hok
  have hlen := mopn_len bd (mN rw co)
  have hnd := mopn_nodup bd (mN rw co)
  have hmem : ∀ c, c ∈ mopn bd (mN rw co) → c < mN rw co ∧ bd c = 0 := fun c hc => (mopn_mem bd _ c).mp hc
  have hz : ∀ c, c ∈ mopn bd (mN rw co) → bd c = 0 := fun c hc => (hmem c hc).2
  have hs : ∀ c, c ∈ mopn bd (mN rw co) → c < 12 := fun c hc => by have := (hmem c hc).1; omega
  have eq1 : (nI q).toNatClampNeg = q := nI_clamp (by omega)
  have eall : mall0 rw co bd gf = msl rw co gf (mopn bd (mN rw co)) bd := rfl
  generalize hLL : mopn bd (mN rw co) = LL at *
  rw [eq1] at hst
  have hmlok : mlok of' (nI LL.length) := ⟨LL.length, by omega, rfl, fun k hk => by rw [hof k hk]; exact vp_in_nI (hs _ (getD_mem hk)) (by decide)⟩
  rcases hst with ⟨rfl, rfl, rfl, hex⟩ | ⟨a, n, rfl, rfl, ha, hn, h1, h0, hb, F, hF, hL⟩
  · refine ⟨fun _ => ⟨rfl, ?_⟩, fun c => absurd (by decide) c⟩
    show _ = msB _ _ _ _
    unfold msB
    rcases hex with rfl | hex
    · rw [if_neg (fun z => z.1 rfl)]
    · rw [if_neg (fun z => by have := z.2; omega)]
  · have hneg : ¬ nI a < 0 := nI_pos (by omega)
    have ea : (nI a).toNatClampNeg = a := nI_clamp (by omega)
    have htn : ∀ i, i < LL.length → mtn tf' i ≤ 9 := fun i hi => by
      obtain ⟨t, ht, e⟩ := htf i hi
      show (tf' i).toNatClampNeg ≤ 9
      rw [e, nI_clamp (by omega)]; exact ht
    have hmu0 : mu_X5_searches_54 rw co cl fi st th bd lf hf of gf tf kf (nI q) p2 (nI LL.length) (nI n) (nI a) bd' hf' of' tf' = mmu LL.length (mtn tf') a := by
      show (if nI a < 0 then 0 else _) = _
      rw [if_neg hneg, ea, hLL]
    have hmun : ∀ {x3 x4 x5 bd2 hf2 of2 tf2}, mu_X5_searches_54 rw co cl fi st th bd lf hf of gf tf kf (nI q) p2 x3 x4 x5 bd2 hf2 of2 tf2 = if x5 < 0 then 0 else mmu LL.length (mtn tf2) x5.toNatClampNeg := fun {x3 x4 x5 bd2 hf2 of2 tf2} => by
      rw [← hLL]; rfl
    unfold vs_X5_searches_54
    rw [ea]
    have hpos : 0 < mmu LL.length (mtn tf') a := by
      unfold mmu
      split
      · omega
      · unfold mcost; omega
    -- one level up
    have hback : ∀ (n' : Nat) (tf2 : Nat → Int32) (G : List (Nat → Int32)), n' < q → (∀ i, i < a → mtn tf' i = mtn tf2 i) → (∀ i, a ≤ i → i < LL.length → mtn tf2 i = 0) → (∀ i, i < LL.length → ∃ t : Nat, t ≤ 9 ∧ tf2 i = nI t) → G.length = n' → msl rw co gf LL bd = G ++ mrest rw co gf LL (mtn tf') bd a →
        (0 < nI a → vp_in (nI a - 1) 12 ∧ vp_in (of' (nI a - 1).toNatClampNeg) 12) ∧ ∀ y : Int32, y = nI a - 1 → (I_X5_searches_54 rw co cl fi st th bd lf hf of gf tf kf (nI q) p2 (nI LL.length) (nI n') y (if 0 < nI a then upd bd' (of' (nI a - 1).toNatClampNeg).toNatClampNeg 0 else bd') hf' of' tf2 ∧ mu_X5_searches_54 rw co cl fi st th bd lf hf of gf tf kf (nI q) p2 (nI LL.length) (nI n') y (if 0 < nI a then upd bd' (of' (nI a - 1).toNatClampNeg).toNatClampNeg 0 else bd') hf' of' tf2 < mmu LL.length (mtn tf') a) := by
      intro n' tf2 G hn' ht2 h02 htf2 hG hLG
      cases a with
      | zero =>
        have hng : ¬ (0 : Int32) < nI 0 := by decide
        refine ⟨fun z => absurd z hng, ?_⟩
        rintro y rfl
        rw [if_neg hng]
        have hlm : (mall0 rw co bd gf).length = n' := by rw [eall, hLG]; simp [mrest, hG]
        refine ⟨⟨hp, by rw [hLL], by rw [hLL]; exact hof, by rw [hLL]; exact htf2, Or.inl ⟨by decide, hb, ?_, Or.inr ?_⟩⟩, ?_⟩
        · unfold msR; rw [hlm, eq1, if_pos hn']
        · rw [hlm, eq1]; exact hn'
        · rw [hmun, if_pos (by decide)]; exact hpos
      | succ a =>
        have hlt : (0 : Int32) < nI (a + 1) := (nI_ltI (a := 0) (by decide) (by omega)).mpr (by omega)
        have ep : nI (a + 1) - 1 = nI a := nI_pred a
        have eap : (nI a).toNatClampNeg = a := nI_clamp (by omega)
        have hal : a < LL.length := by omega
        have hov : vp_in (of' a) 12 := by rw [hof a hal]; exact vp_in_nI (hs _ (getD_mem hal)) (by decide)
        rw [ep, eap]
        refine ⟨fun _ => ⟨vp_in_nI (by omega) (by decide), hov⟩, ?_⟩
        rintro y rfl
        have ec : (of' a).toNatClampNeg = LL.getD a 0 := by rw [hof a hal, nI_clamp]; have := hs _ (getD_mem hal); omega
        rw [if_pos hlt, ec]
        have hS : mSt rw co gf bd q LL (mtn tf2) (upd bd' (LL.getD a 0) 0) a n' := mSt_back hnd hz (by omega) ht2 (fun i hi => by rw [← ht2 i hi]; exact h1 i hi) (fun i h3 h4 => h02 i (by omega) h4) hb hn' hG hLG
        refine ⟨⟨hp, by rw [hLL], by rw [hLL]; exact hof, by rw [hLL]; exact htf2, Or.inr ⟨a, n', rfl, rfl, by rw [hLL, eq1]; exact hS⟩⟩, ?_⟩
        rw [hmun, if_neg (nI_pos (by omega)), eap]
        exact mmu_back (by omega) ht2
    refine ⟨fun c => absurd c hneg, fun _ => ⟨fun c2 => ?_, fun c2 => ?_⟩⟩
    · -- a solved board
      have e : a = LL.length := (nI_eq (by omega) (by omega)).mp c2
      have hcur : mcurL rw co gf LL (mtn tf') bd a = [bd'] := by unfold mcurL; rw [if_pos e, hb]
      have hL2 : msl rw co gf LL bd = (F ++ [bd']) ++ mrest rw co gf LL (mtn tf') bd a := by rw [hL, hcur, List.append_assoc]
      have hF2 : (F ++ [bd']).length = n + 1 := by rw [List.length_append, hF]; rfl
      have hlenL : n + 1 ≤ (mall0 rw co bd gf).length := by rw [eall, hL2, List.length_append, hF2]; omega
      rintro y rfl
      rw [nI_1]
      have hlow := hback (n + 1) tf' (F ++ [bd'])
      have hdone : nI (n + 1) = nI q → p2 = 0 → (mlok of' (nI LL.length) ∧ (I_X5_searches_54 rw co cl fi st th bd lf hf of gf tf kf (nI q) p2 (nI LL.length) (nI (n + 1)) (-1) (mem bd' of' (nI LL.length).toNatClampNeg) hf' of' tf' ∧ mu_X5_searches_54 rw co cl fi st th bd lf hf of gf tf kf (nI q) p2 (nI LL.length) (nI (n + 1)) (-1) (mem bd' of' (nI LL.length).toNatClampNeg) hf' of' tf' < mmu LL.length (mtn tf') a)) := by
        intro c3 hp2
        have hnq : n + 1 = q := (nI_eq (by omega) (by omega)).mp c3
        refine ⟨hmlok, ⟨hp, by rw [hLL], by rw [hLL]; exact hof, by rw [hLL]; exact htf, Or.inl ⟨rfl, ?_, ?_, Or.inl hp2⟩⟩, ?_⟩
        · rw [nI_clamp (by omega), hb, e]
          exact mem_back hof (fun c hc => by have := hs c hc; omega) hz
        · unfold msR; rw [eq1, if_neg (by omega), c3]
        · rw [hmun, if_pos (by decide)]; exact hpos
      have hgo : ¬ nI (n + 1) = nI q → _ := fun c3 => hlow (by have : ¬ n + 1 = q := fun z => c3 (by rw [z]); omega) (fun _ _ => rfl) (fun i h3 h4 => by omega) htf hF2 hL2
      refine ⟨fun c3 => ⟨fun c4 => ⟨fun _ => ?_, fun c5 => absurd c3 c5⟩, fun c4 => ?_⟩, fun c3 => ⟨fun c4 => absurd c4 c3, fun _ => ?_⟩⟩
      · rw [hmu0]; exact hdone c3 c4
      · have hnq : n + 1 = q := (nI_eq (by omega) (by omega)).mp c3
        refine ⟨?_, ?_⟩
        · unfold msR; rw [eq1, if_neg (by omega), c3]
        · show bd' = msB _ _ _ _
          unfold msB
          rw [eq1, if_pos ⟨c4, by omega⟩, eall, hL2]
          have : q - 1 = n := by omega
          rw [this, List.getD_eq_getElem?_getD, List.append_assoc, List.getElem?_append_right (by omega), hF]
          simp
      · rw [hmu0]; exact hgo c3
    · -- a cell to be filled
      have hal : a < LL.length := by
        have : ¬ a = LL.length := fun z => c2 (by rw [z])
        omega
      have hv : vp_in (nI a) 12 := vp_in_nI (by omega) (by decide)
      have hcl := hs _ (getD_mem hal)
      have hov : vp_in (of' a) 12 := by rw [hof a hal]; exact vp_in_nI hcl (by decide)
      have eo : (of' a).toNatClampNeg = LL.getD a 0 := by rw [hof a hal, nI_clamp (by omega)]
      obtain ⟨t, ht, et⟩ := htf a hal
      have etn : mtn tf' a = t := by show (tf' a).toNatClampNeg = t; rw [et, nI_clamp (by omega)]
      refine ⟨hv, fun c3 => ⟨hv, ?_⟩, fun c3 => ⟨hv, hov, hv, ?_⟩⟩
      · -- all nine are tried
        rw [et] at c3
        have t9 : t = 9 := (nI_eq (b := 9) (by omega) (by decide)).mp c3
        have hcur : mcurL rw co gf LL (mtn tf') bd a = [] := by unfold mcurL mlev; rw [if_neg (by omega), etn, t9]; rfl
        rw [hmu0]
        have hz0 : (0 : Int32) = nI 0 := rfl
        rw [hz0]
        refine hback n (upd tf' a (nI 0)) F hn (fun i hi => by rw [mtn_upd _ _ _ (by decide), if_neg (by omega)]) (fun i h3 h4 => ?_) (fun i hi => ?_) hF (by rw [hL, hcur, List.nil_append])
        · rw [mtn_upd _ _ _ (by decide)]
          split
          · rfl
          · exact h0 i (by omega) h4
        · unfold upd
          split
          · exact ⟨0, by decide, rfl⟩
          · exact htf i hi
      · -- the next number
        have t8 : t < 9 := by
          have : ¬ t = 9 := fun z => c3 (by rw [et, z]; rfl)
          omega
        have hgc : vp_in (gf (LL.getD a 0)) 9 := hg _ hcl
        rintro y hy
        have hy : y = mnum gf (LL.getD a 0) t := by rw [hy, eo, et]; rfl
        subst hy
        have hmn := mnum_in hgc t8
        have hokb : mok rw co bd' := by rw [hb]; exact mok_mpb hok hg hs a (by omega) (fun i hi => ⟨htn i (by omega), h1 i hi⟩)
        have ef : mft rw co bd' hf' (of' a) (mnum gf (LL.getD a 0) t) = mft0 rw co (mpb gf LL (mtn tf') bd a) (nI (LL.getD a 0)) (mnum gf (LL.getD a 0) t) := by
          rw [← hb, ← hof a hal]; exact mft_hf hokb hmn
        have e1 : (tf' a) + 1 = nI (t + 1) := by rw [et, nI_1]
        have htf2 : ∀ i, i < LL.length → ∃ t' : Nat, t' ≤ 9 ∧ upd tf' a (nI (t + 1)) i = nI t' := fun i hi => by
          unfold upd
          split
          · exact ⟨t + 1, by omega, rfl⟩
          · exact htf i hi
        have ht2 : ∀ i, i < a → mtn tf' i = mtn (upd tf' a (nI (t + 1))) i := fun i hi => by rw [mtn_upd _ _ _ (by omega), if_neg (by omega)]
        have ea2 : mtn (upd tf' a (nI (t + 1))) a = t + 1 := by rw [mtn_upd _ _ _ (by omega), if_pos rfl]
        have h02 : ∀ i, a < i → i < LL.length → mtn (upd tf' a (nI (t + 1))) i = 0 := fun i h3 h4 => by rw [mtn_upd _ _ _ (by omega), if_neg (by omega)]; exact h0 i h3 h4
        have hlev : mlev rw co gf LL (mtn tf') bd a = mGt rw co gf LL (mtn tf') bd a t ++ mlev rw co gf LL (mtn (upd tf' a (nI (t + 1)))) bd a := by
          unfold mlev
          rw [etn, ea2, ← mGt_congr ht2]
          have : 9 - t = (9 - (t + 1)) + 1 := by omega
          rw [this]
          simp only [tcat]
          have : 8 - (9 - (t + 1)) = t := by omega
          rw [this]
        have hc1 : mcost LL.length (mtn tf') a = mcost LL.length (mtn (upd tf' a (nI (t + 1)))) a + (mwk (LL.length - a - 1) + 1) := by
          unfold mcost
          rw [etn, ea2]
          have : 9 - t = (9 - (t + 1)) + 1 := by omega
          rw [this, Nat.add_mul]; omega
        rw [e1, ef, hmu0, eo]
        refine ⟨hv, hv, hv, ⟨hokb, hov, hmn⟩, fun c4 => ?_, fun c4 => ⟨hv, hov, ?_⟩⟩
        · rw [b2i_eq0] at c4
          refine ⟨⟨hp, by rw [hLL], by rw [hLL]; exact hof, by rw [hLL]; exact htf2, Or.inr ⟨a, n, rfl, rfl, ?_⟩⟩, ?_⟩
          · rw [hLL, eq1]
            refine ⟨ha, hn, fun i hi => by rw [← ht2 i hi]; exact h1 i hi, h02, by rw [hb, mpb_congr a ht2], F, hF, ?_⟩
            rw [hL, ← mrest_congr a ht2]
            unfold mcurL
            rw [if_neg (by omega), if_neg (by omega), hlev]
            have : mGt rw co gf LL (mtn tf') bd a t = [] := by unfold mGt; rw [c4]; rfl
            rw [this, List.nil_append]
          · rw [hmun, if_neg hneg, ea]
            unfold mmu
            rw [if_neg (by omega), if_neg (by omega), ← msum_congr a ht2, hc1]; omega
        · rintro y rfl
          rw [b2i_ne0] at c4
          rw [nI_1]
          have eb2 : upd bd' (LL.getD a 0) (mnum gf (LL.getD a 0) t) = mpb gf LL (mtn (upd tf' a (nI (t + 1)))) bd (a + 1) := by
            simp only [mpb]
            rw [ea2, hb, mpb_congr a ht2]; rfl
          have hfr : a + 1 < LL.length → mtn (upd tf' a (nI (t + 1))) (a + 1) = 0 := fun hl => h02 _ (by omega) hl
          refine ⟨⟨hp, by rw [hLL], by rw [hLL]; exact hof, by rw [hLL]; exact htf2, Or.inr ⟨a + 1, n, rfl, rfl, ?_⟩⟩, ?_⟩
          · rw [hLL, eq1]
            refine ⟨by omega, hn, fun i hi => ?_, fun i h3 h4 => h02 i (by omega) h4, eb2, F, hF, ?_⟩
            · by_cases z : i = a
              · rw [z, ea2]; omega
              · rw [← ht2 i (by omega)]; exact h1 i (by omega)
            · rw [hL, mcurL_fresh (by omega) hfr]
              simp only [mrest]
              rw [← mrest_congr a ht2, ← eb2]
              have hg1 : mGt rw co gf LL (mtn tf') bd a t = msl rw co gf (LL.drop (a + 1)) (upd bd' (LL.getD a 0) (mnum gf (LL.getD a 0) t)) := by unfold mGt; rw [c4, hb]; rfl
              have : mcurL rw co gf LL (mtn tf') bd a = mlev rw co gf LL (mtn tf') bd a := by unfold mcurL; rw [if_neg (by omega)]
              rw [this, hlev, hg1, List.append_assoc]
          · rw [hmun, if_neg (nI_pos (by omega)), nI_clamp (by omega), mmu_fresh (by omega) hfr]
            unfold mmu
            rw [if_neg (by omega), hc1]
            simp only [msum]
            rw [← msum_congr a ht2, show LL.length - (a + 1) = LL.length - a - 1 by omega]; omega
theorem pe_X5_searches (rw : Int32) (co : Int32) (cl : Int32) (fi : Int32) (st : Int64) (th : Int32) (bd : Nat → Int32) (lf : Nat → Int32) (hf : Nat → Int32) (of : Nat → Int32) (gf : Nat → Int32) (tf : Nat → Int32) (kf : Nat → Int32) (p1 : Int32) (p2 : Int32) (hpre : mspre rw co bd gf p1) : ve_X5_searches rw co cl fi st th bd lf hf of gf tf kf p1 p2 (fun (r : Int32) (u : (Nat → Int32) × (Nat → Int32) × (Nat → Int32) × (Nat → Int32)) => r = msR p1 (mall0 rw co bd gf) ∧ u.1 = msB p1 p2 (mall0 rw co bd gf) bd) (I_X5_searches_5 rw co cl fi st th bd lf hf of gf tf kf p1 p2) (I_X5_searches_54 rw co cl fi st th bd lf hf of gf tf kf p1 p2) := ⟨hpre, rfl, 0, Nat.zero_le _, rfl, rfl, fun a ha => absurd ha (Nat.not_lt_zero _), fun a ha => absurd ha (Nat.not_lt_zero _)⟩
