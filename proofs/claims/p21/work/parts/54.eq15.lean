/-! the rules: one number; a hidden one -/
def enc (o : Option (Nat × Int32)) : Int32 := match o with | none => -1 | some q => 10 * nI q.1 + q.2
section
variable {rw co : Int32} {r c N : Nat} {f bd hf : Nat → Int32}
def cnN (rw co : Int32) (bd hf : Nat → Int32) (k : Nat) : Nat → Nat | 0 => 0 | m + 1 => cnN rw co bd hf k m + (if mft rw co bd hf (nI k) (nI (m + 1)) then 1 else 0)
theorem mon_2 {k : Nat} : ∀ m, (mon rw co bd hf (nI k) m).2 = nI (cnN rw co bd hf k m)
  | 0 => nI_0.symm
  | m + 1 => by
    rw [mon, cnN]
    split
    · show (mon rw co bd hf (nI k) m).2 + 1 = _
      rw [mon_2 m, nI_1]
    · exact mon_2 m
theorem mon_1 {k : Nat} : ∀ m, m ≤ 9 → 1 ≤ cnN rw co bd hf k m → ∃ v, 1 ≤ v ∧ v < 10 ∧ (mon rw co bd hf (nI k) m).1 = nI v ∧ mft rw co bd hf (nI k) (nI v) = true
  | 0, _, h => by simp [cnN] at h
  | m + 1, hm, h => by
    rw [cnN] at h
    rw [mon]
    by_cases hf : mft rw co bd hf (nI k) (nI (m + 1)) = true
    · rw [if_pos hf]
      exact ⟨m + 1, by omega, by omega, rfl, hf⟩
    · rw [if_neg hf] at h ⊢
      exact mon_1 m (by omega) (by omega)
theorem cnN_mono {k a : Nat} : ∀ b, a ≤ b → cnN rw co bd hf k a ≤ cnN rw co bd hf k b
  | 0, h => by rw [show a = 0 by omega]; exact Nat.le_refl _
  | b + 1, h => by
    by_cases e : a = b + 1
    · rw [e]; exact Nat.le_refl _
    · have := cnN_mono (k := k) (a := a) b (by omega)
      rw [cnN]; omega
theorem cnN_le {k : Nat} : ∀ b, cnN rw co bd hf k b ≤ b
  | 0 => Nat.le_refl 0
  | b + 1 => by have := cnN_le (k := k) b; rw [cnN]; split <;> omega
theorem zonG_mon (g : gok rw co r c N) (h : FB N f bd) (hb : bv N bd) (hs : SND rw co f) {k : Nat} (hk : k < N) : ∀ n, n ≤ 9 →
    (cnN rw co bd hf k (9 - n) = 0 → zonG co (zac rw co) (zfc co r) (zlc co (zfc co r)) f (nI k) n 0 = monr rw co bd hf (nI k)) ∧
    (cnN rw co bd hf k (9 - n) = 1 → zonG co (zac rw co) (zfc co r) (zlc co (zfc co r)) f (nI k) n (mon rw co bd hf (nI k) (9 - n)).1 = monr rw co bd hf (nI k))
  | 0, _ => by
    unfold monr
    rw [mon_2]
    refine ⟨fun z => ?_, fun z => ?_⟩
    · rw [Nat.sub_zero] at z
      rw [z, zonG, if_neg (by decide)]
    · rw [Nat.sub_zero] at z
      rw [z, zonG, if_pos (by rfl)]
  | n + 1, hn => by
    obtain ⟨i1, i2⟩ := zonG_mon g h hb hs hk n (by omega)
    have e9 : 9 - n = (9 - (n + 1)) + 1 := by omega
    have ez := zct_mft (hf := hf) g h hb hs hk (v := 9 - n) (by omega) (by omega)
    have em : cnN rw co bd hf k (9 - n) = cnN rw co bd hf k (9 - (n + 1)) + (if mft rw co bd hf (nI k) (nI (9 - n)) then 1 else 0) := by
      conv => lhs; rw [e9]
      rw [cnN, ← e9]
    have en : mon rw co bd hf (nI k) (9 - n) = if mft rw co bd hf (nI k) (nI (9 - n)) then (nI (9 - n), (mon rw co bd hf (nI k) (9 - (n + 1))).2 + 1) else mon rw co bd hf (nI k) (9 - (n + 1)) := by
      conv => lhs; rw [e9]
      rw [mon, ← e9]
    rw [zonG, ez]
    by_cases hp : mft rw co bd hf (nI k) (nI (9 - n)) = true
    · rw [if_pos hp] at em en
      refine ⟨fun z => ?_, fun z => ?_⟩
      · rw [if_pos hp, if_pos rfl]
        have := i2 (by omega)
        rw [en] at this
        exact this
      · rw [zonG, ez, if_pos hp]
        obtain ⟨v, h1, h2, h3, _⟩ := mon_1 (rw := rw) (co := co) (bd := bd) (hf := hf) (k := k) (9 - (n + 1)) (by omega) (by omega)
        rw [h3, if_neg (nI_ne0 h1 (by omega))]
        unfold monr
        have h4 := cnN_mono (rw := rw) (co := co) (bd := bd) (hf := hf) (k := k) (a := 9 - n) 9 (by omega)
        have h5 := cnN_le (rw := rw) (co := co) (bd := bd) (hf := hf) (k := k) 9
        rw [mon_2, if_neg]
        intro q
        have := nI_inj (b := 1) (by omega) (by decide) q
        omega
    · rw [if_neg hp] at em en
      rw [if_neg hp]
      rw [en] at i2
      exact ⟨fun z => i1 (by omega), fun z => by rw [zonG, ez, if_neg hp]; exact i2 (by omega)⟩
theorem zonr_monr (g : gok rw co r c N) (h : FB N f bd) (hb : bv N bd) (hs : SND rw co f) {k : Nat} (hk : k < N) : zonr co (zac rw co) (zfc co r) (zlc co (zfc co r)) f (nI k) = monr rw co bd hf (nI k) := (zonG_mon g h hb hs hk 9 (Nat.le_refl _)).1 rfl
theorem mft_0 {k v : Nat} (hk : k < 2 ^ 31) (h : mft rw co bd hf (nI k) (nI v) = true) : bd k = 0 := by
  unfold mft at h
  rw [nI_clamp hk, Bool.and_eq_true, decide_eq_true_eq] at h
  exact h.1
theorem monr_or {k : Nat} (hk : k < 2 ^ 31) : monr rw co bd hf (nI k) = 0 ∨ (bd k = 0 ∧ ∃ v, 1 ≤ v ∧ v < 10 ∧ monr rw co bd hf (nI k) = nI v ∧ mft rw co bd hf (nI k) (nI v) = true) := by
  unfold monr
  rw [mon_2]
  have h5 := cnN_le (rw := rw) (co := co) (bd := bd) (hf := hf) (k := k) 9
  split
  · next e =>
    have := nI_inj (b := 1) (by omega) (by decide) e
    obtain ⟨v, h1, h2, h3, h4⟩ := mon_1 (rw := rw) (co := co) (bd := bd) (hf := hf) (k := k) 9 (by omega) (by omega)
    exact Or.inr ⟨mft_0 hk h4, v, h1, h2, h3, h4⟩
  · exact Or.inl rfl
theorem pos_nI {v : Nat} (h1 : 1 ≤ v) (h2 : v < 10) : (0 : Int32) < nI v := by rw [← nI_0]; exact (nI_ltI (by decide) (by omega)).mpr h1
theorem zf1_eq (g : gok rw co r c N) (h : FB N f bd) (hb : bv N bd) (hs : SND rw co f) : ∀ j, j ≤ N → zf1 co (zac rw co) (zfc co r) (zlc co (zfc co r)) f N j = enc (mrunF rw co bd hf 0 N j)
  | 0, _ => rfl
  | j + 1, hj => by
    have hk : N - (j + 1) < N := by omega
    have hN := (gN g).2
    rw [zf1, mrunF, zonr_monr (hf := hf) g h hb hs hk, zf1_eq g h hb hs j (by omega)]
    have e1 : mrun1 rw co bd hf 0 (nI (N - (j + 1))) = monr rw co bd hf (nI (N - (j + 1))) := by unfold mrun1; rw [if_pos rfl]
    rw [e1]
    rcases monr_or (rw := rw) (co := co) (bd := bd) (hf := hf) (k := N - (j + 1)) (by omega) with e | ⟨h0, v, h1, h2, h3, _⟩
    · rw [if_pos e, if_neg (fun z => by rw [e] at z; exact absurd z.2 (by decide))]
    · rw [h3, if_neg (nI_ne0 h1 (by omega)), if_pos ⟨h0, pos_nI h1 h2⟩]
      rfl
theorem zf3_eq (g : gok rw co r c N) (h : FB N f bd) (hb : bv N bd) (hs : SND rw co f) : ∀ j, j ≤ N → zf3 co (zac rw co) (zfc co r) (zlc co (zfc co r)) f N j = enc (mrunF rw co bd (mlk rw co bd hf) 2 N j)
  | 0, _ => rfl
  | j + 1, hj => by
    have hk : N - (j + 1) < N := by omega
    have hN := (gN g).2
    have e1 : mrun1 rw co bd (mlk rw co bd hf) 2 (nI (N - (j + 1))) = if mhn rw co bd (mlk rw co bd hf) (nI (N - (j + 1))) then 1 else 0 := by
      unfold mrun1; rw [if_neg (by decide), if_neg (by decide)]
    have e2 : zf3c co (zac rw co) (zfc co r) (zlc co (zfc co r)) f (nI (N - (j + 1))) = mhn rw co bd (mlk rw co bd hf) (nI (N - (j + 1))) := by
      unfold zf3c mhn
      have := zct_mft (hf := mlk rw co bd hf) g h hb hs hk (v := 1) (by decide) (by decide)
      rw [zhi_mhd (hf := hf) g h hb hk, zbs_mbs g (one_sm g hk), mlk_FB g h (by decide), show (1 : Int32) = nI 1 from rfl, this, Bool.and_assoc]
    rw [zf3, mrunF, e1, e2, zf3_eq g h hb hs j (by omega)]
    by_cases hm : mhn rw co bd (mlk rw co bd hf) (nI (N - (j + 1))) = true
    · have h0 : bd (N - (j + 1)) = 0 := by
        unfold mhn at hm
        rw [Bool.and_eq_true] at hm
        exact mft_0 (v := 1) (by omega) hm.2
      rw [if_pos hm, if_pos hm, if_pos ⟨h0, by decide⟩]
      rfl
    · rw [if_neg hm, if_neg hm, if_neg (fun z => absurd z.2 (by decide))]
end
