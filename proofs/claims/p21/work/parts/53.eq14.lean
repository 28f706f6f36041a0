/-! hidden cells; a solved board -/
theorem mgr_mrc {rw co w : Int32} : ∀ (n : Nat) (x : Int32), mgr rw co w n x = mrc rw co w n x
  | 0, _ => rfl
  | n + 1, x => by
    rw [mgr, mrc]
    by_cases h : x ||| (mbs rw co x &&& w) = x
    · rw [if_pos h, h, ← mgr_mrc n x, mgr_fix h]
    · rw [if_neg h]; exact mgr_mrc n _
/-- what lies within reach of the field of k -/
def rch (rw co : Int32) (f : Nat → Int32) (v k : Nat) : Int32 := mrc rw co (f 0) (v - fsz rw co f v k) (gw rw co (f v) (zbit (nI k)))
theorem sub_clamp {a b : Nat} (ha : a < 2 ^ 30) (hb : b < 2 ^ 30) : (nI a - nI b).toNatClampNeg = a - b := by
  by_cases h : b ≤ a
  · rw [pk_subI h, nI_clamp (by omega)]
  · have e : (nI a - nI b).toInt = (a : Int) - b := by
      rw [Int32.toInt_sub, nI_toInt (by omega), nI_toInt (by omega), Int.bmod_eq_of_le (by omega) (by omega)]
    show (nI a - nI b).toInt.toNat = a - b
    rw [e]; omega
section
variable {rw co : Int32} {r c N : Nat} {f bd hf : Nat → Int32}
theorem zhiI_iff (g : gok rw co r c N) (h : FB N f bd) {v : Nat} (hv : v < 10) {i : Nat} : ∀ (n : Nat) (left s : Int32), sm N left → (∀ i, bt left i = true → bt (f v) i = true) → cn left 12 ≤ n →
    (bt (zhiI co (zac rw co) (zfc co r) (zlc co (zfc co r)) f (nI v) n left s) i = true ↔ bt s i = true ∨ ∃ k, bt left k = true ∧ bt (rch rw co f v k) i = true)
  | 0, left, s, hs, hw, hn => by
    have e := sm_zero hs (gN g).2 (by omega)
    subst e
    rw [zhiI]
    exact ⟨Or.inl, fun z => z.elim id (fun ⟨k, h, _⟩ => by rw [bt_0] at h; exact absurd h (by decide))⟩
  | n + 1, left, s, hs, hw, hn => by
    have hN := (gN g).2
    rw [zhiI]
    by_cases h0 : left = 0
    · subst h0
      rw [if_pos rfl]
      exact ⟨Or.inl, fun z => z.elim id (fun ⟨k, h, _⟩ => by rw [bt_0] at h; exact absurd h (by decide))⟩
    · rw [if_neg h0]
      obtain ⟨k0, hk, hb, e⟩ := low_one hN hs h0
      have sk := one_sm g hk
      have sF := gw_sm g (w := f v) sk
      rw [e, zcw_nI hv, zsp_gw g sk, bc_cn hN sF, sub_clamp (by omega) (Nat.lt_of_le_of_lt (cn_le _ 12) (by decide)), zsp_mgr g _ _ sF, mgr_mrc]
      have hlt : cn (left &&& (gw rw co (f v) (zbit (nI k0)) ^^^ (-1))) 12 < cn left 12 := by
        refine cn_lt (fun i hi => ?_) (j := k0) ?_ hb 12 (by omega)
        · rw [bt_and, Bool.and_eq_true] at hi; exact hi.1
        · rw [bt_and, bt_not (by omega), gw_self g hk, hb]; rfl
      rw [zhiI_iff g h hv n _ _ (sm_and hs _) (fun i hi => hw i (by rw [bt_and, Bool.and_eq_true] at hi; exact hi.1)) (by omega), bt_or, Bool.or_eq_true]
      constructor
      · rintro ((z | z) | ⟨k, z1, z2⟩)
        · exact Or.inl z
        · exact Or.inr ⟨k0, hb, z⟩
        · rw [bt_and, Bool.and_eq_true] at z1
          exact Or.inr ⟨k, z1.1, z2⟩
      · rintro (z | ⟨k, z1, z2⟩)
        · exact Or.inl (Or.inl z)
        · have hkN := sm_lt hs z1
          cases h3 : bt (gw rw co (f v) (zbit (nI k0))) k
          · exact Or.inr ⟨k, by rw [bt_and, bt_not (by omega), z1, h3]; rfl, z2⟩
          · refine Or.inl (Or.inr ?_)
            have := gw_same g hk (hw k0 hb) h3
            unfold rch fsz at z2
            rw [this] at z2
            exact z2
theorem zhiO_iff (g : gok rw co r c N) (h : FB N f bd) {i : Nat} : ∀ (n : Nat), n ≤ 9 → ∀ (s : Int32), (bt (zhiO co (zac rw co) (zfc co r) (zlc co (zfc co r)) f n s) i = true ↔ bt s i = true ∨ ∃ v k, 10 - n ≤ v ∧ v < 10 ∧ bt (f v) k = true ∧ bt (rch rw co f v k) i = true)
  | 0, _, s => ⟨Or.inl, fun z => z.elim id (fun ⟨v, k, h1, h2, _⟩ => by omega)⟩
  | n + 1, hn, s => by
    have hv : 9 - n < 10 := by omega
    rw [zhiO, zhiO_iff g h n (by omega), zcw_nI hv, zhiI_iff g h hv 12 _ _ (FB_sm h hv) (fun _ z => z) (cn_le _ _)]
    constructor
    · rintro ((z | ⟨k, z1, z2⟩) | ⟨v, k, z1, z2, z3⟩)
      · exact Or.inl z
      · exact Or.inr ⟨9 - n, k, by omega, hv, z1, z2⟩
      · exact Or.inr ⟨v, k, by omega, z2, z3⟩
    · rintro (z | ⟨v, k, z1, z2, z3⟩)
      · exact Or.inl (Or.inl z)
      · by_cases e : v = 9 - n
        · subst e; exact Or.inl (Or.inr ⟨k, z3⟩)
        · exact Or.inr ⟨v, k, by omega, z2, z3⟩
theorem mrch_iff (g : gok rw co r c N) (h : FB N f bd) {k v : Nat} (hk : k < N) (hv : v < 10) (e : bd k = nI v) {j : Nat} (hj : j < N) : mrch rw co bd (mlk rw co bd hf) (nI k) (nI j) = bt (rch rw co f v k) j := by
  have hN := (gN g).2
  have sk := one_sm g hk
  have sF := gw_sm g (w := f v) sk
  unfold mrch
  rw [nI_clamp (by omega), e, mfo_gw g h hk hv e, mlk_FB g h (by decide), mcn_cn hN sF 12 (by decide), nI_toInt (by omega), nI_toInt (cn_12 _)]
  have e1 : (((v : Nat) : Int) - ((cn (gw rw co (f v) (zbit (nI k))) 12 : Nat) : Int)).toNat = v - fsz rw co f v k := by unfold fsz; omega
  rw [e1, mhas_bt hN ?_ (by omega)]
  · rfl
  · rw [← mgr_mrc]; exact sm_mgr g _ _ sF
theorem zhi_mhd (g : gok rw co r c N) (h : FB N f bd) (hb : bv N bd) {j : Nat} (hj : j < N) : zhas (zhi co (zac rw co) (zfc co r) (zlc co (zfc co r)) f) (nI j) = mhd rw co bd (mlk rw co bd hf) (nI j) := by
  have hN := (gN g).2
  have step : ∀ n, n ≤ N → (mhdF rw co bd (mlk rw co bd hf) (nI j) N n = true ↔ ∀ k, N - n ≤ k → k < N → bd k = 0 ∨ mrch rw co bd (mlk rw co bd hf) (nI k) (nI j) = false) := by
    intro n
    induction n with
    | zero => intro _; exact ⟨fun _ k h1 h2 => by omega, fun _ => rfl⟩
    | succ n ih =>
      intro hn
      rw [mhdF, Bool.and_eq_true, ih (by omega), Bool.or_eq_true, decide_eq_true_eq, Bool.not_eq_true']
      constructor
      · rintro ⟨h1, h2⟩ k h3 h4
        by_cases e : k = N - (n + 1)
        · rw [e]; exact h1
        · exact h2 k (by omega) h4
      · intro z
        exact ⟨z _ (Nat.le_refl _) (by omega), fun k h1 h2 => z k (by omega) h2⟩
  unfold mhd
  rw [nI_clamp (by omega), gmN g, Bool.eq_iff_iff, Bool.and_eq_true, decide_eq_true_eq, step N (Nat.le_refl _), zhas_bt, cb_nI (by omega)]
  unfold zhi
  rw [bt_and, Bool.and_eq_true, FB_0 h hN, bt_not (by omega), Bool.not_eq_true', ← Bool.not_eq_true, zhiO_iff g h 9 (Nat.le_refl _)]
  constructor
  · rintro ⟨⟨_, h1⟩, h2⟩
    refine ⟨h1, fun k _ hk => ?_⟩
    obtain ⟨v, hv, e⟩ := hb k hk
    by_cases h0 : v = 0
    · left; rw [e, h0, nI_0]
    · right
      rw [mrch_iff g h hk hv e hj]
      cases hq : bt (rch rw co f v k) j
      · rfl
      · exact absurd (Or.inr ⟨v, k, by omega, hv, (FB_iff h hN hv).mpr ⟨hk, e⟩, hq⟩) h2
  · rintro ⟨h1, h2⟩
    refine ⟨⟨hj, h1⟩, ?_⟩
    rintro (z | ⟨v, k, z1, z2, z3, z4⟩)
    · rw [bt_0] at z; exact absurd z (by decide)
    · obtain ⟨hk, e⟩ := (FB_iff h hN z2).mp z3
      rcases h2 k (by omega) hk with h3 | h3
      · rw [e] at h3; exact absurd h3 (nI_ne0 (by omega) (by omega))
      · rw [mrch_iff g h hk z2 e hj, z4] at h3
        exact absurd h3 (by decide)
theorem solved_eq (g : gok rw co r c N) (h : FB N f bd) (hb : bv N bd) (hs : SND rw co f) : (decide (f 0 = 0) && zso co (zac rw co) (zfc co r) (zlc co (zfc co r)) f 9) = mslv rw co bd (mlk rw co bd hf) N N := by
  have hN := (gN g).2
  have step : ∀ n, n ≤ N → (mslv rw co bd (mlk rw co bd hf) N n = true ↔ ∀ k, N - n ≤ k → k < N → 0 < bd k ∧ mcn (mfo rw co bd (mlk rw co bd hf) (nI k)) 12 = bd k) := by
    intro n
    induction n with
    | zero => intro _; exact ⟨fun _ k h1 h2 => by omega, fun _ => rfl⟩
    | succ n ih =>
      intro hn
      rw [mslv, Bool.and_eq_true, ih (by omega), Bool.and_eq_true, decide_eq_true_eq, decide_eq_true_eq]
      constructor
      · rintro ⟨h1, h2⟩ k h3 h4
        by_cases e : k = N - (n + 1)
        · rw [e]; exact h1
        · exact h2 k (by omega) h4
      · intro z
        exact ⟨z _ (Nat.le_refl _) (by omega), fun k h1 h2 => z k (by omega) h2⟩
  rw [(zso_iff g h).mpr hs, Bool.and_true, Bool.eq_iff_iff, decide_eq_true_eq, step N (Nat.le_refl _)]
  constructor
  · intro h0 k _ hk
    obtain ⟨v, hv, e⟩ := hb k hk
    have hv0 : 1 ≤ v := by
      apply Classical.byContradiction
      intro hn
      have : bt (f 0) k = true := (FB_0 h hN).mpr ⟨hk, by rw [e, show v = 0 by omega, nI_0]⟩
      rw [h0, bt_0] at this; exact absurd this (by decide)
    have hsk := hs v hv0 hv k ((FB_iff h hN hv).mpr ⟨hk, e⟩)
    have e1 : rsz rw co f v k = fsz rw co f v k := by
      unfold rsz fsz
      rw [h0, show f v ||| 0 = f v from Int32.or_zero]
    rw [e1] at hsk
    rw [e, mfo_gw g h hk hv e, mcn_cn hN (gw_sm g (one_sm g hk)) 12 (by decide)]
    refine ⟨by rw [← nI_0]; exact (nI_ltI (by decide) (by omega)).mpr hv0, ?_⟩
    have : cn (gw rw co (f v) (zbit (nI k))) 12 = v := Nat.le_antisymm hsk.1 hsk.2
    rw [this]
  · intro z
    apply bt_eq
    intro i
    rw [FB_0 h hN, bt_0]
    constructor
    · rintro ⟨h1, h2⟩
      have := (z i (by omega) h1).1
      rw [h2] at this
      exact absurd this (by decide)
    · intro q; exact absurd q (by decide)
end
