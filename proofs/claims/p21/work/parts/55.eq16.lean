/-! the rule of all shapes -/
section
variable {rw co : Int32} {r c N : Nat} {f bd hf : Nat → Int32}
def lowf (rw co : Int32) (f : Nat → Int32) (v k : Nat) : Prop := ∀ i, bt (gw rw co (f v) (zbit (nI k))) i = true → k ≤ i
def alls (rw co : Int32) (bd hf : Nat → Int32) (k i : Nat) : Prop := 0 < msO rw co bd (mlk rw co bd hf) (nI k) 0 ∧ msO rw co bd (mlk rw co bd hf) (nI k) (zbit (nI i)) = msO rw co bd (mlk rw co bd hf) (nI k) 0
/-- the field of k, by its lowest cell, decides the cell i -/
def frc (rw co : Int32) (f bd hf : Nat → Int32) (k i : Nat) : Prop := ∃ v, 1 ≤ v ∧ v < 10 ∧ bd k = nI v ∧ lowf rw co f v k ∧ alls rw co bd hf k i ∧ mft rw co bd (mlk rw co bd hf) (nI i) (nI v) = true
theorem bt_below : ∀ k, k < 12 → ∀ i, i < 32 → bt (zbit (nI k) - 1) i = decide (i < k) := by decide +kernel
theorem low_iff {N : Nat} (hN : N ≤ 12) {x : Int32} (hx : sm N x) {k : Nat} (hk : k < N) : x &&& (zbit (nI k) - 1) = 0 ↔ ∀ i, bt x i = true → k ≤ i := by
  constructor
  · intro h i hi
    have hiN := sm_lt hx hi
    have := congrArg (fun z => bt z i) h
    simp only [bt_and, bt_0, hi, Bool.true_and] at this
    rw [bt_below k (by omega) i (by omega), decide_eq_false_iff_not] at this
    omega
  · intro h
    apply bt_ext
    intro i hi
    rw [bt_and, bt_below k (by omega) i hi, bt_0]
    cases hb : bt x i
    · rfl
    · rw [decide_eq_false (by have := h i hb; omega)]; rfl
theorem frc_lt (g : gok rw co r c N) (h : FB N f bd) (hs : SND rw co f) {k i v : Nat} (hk : k < N) (hi : i < N) (h1 : 1 ≤ v) (hv : v < 10) (e : bd k = nI v) (ha : alls rw co bd hf k i) (h0 : bd i = 0) : fsz rw co f v k < v := by
  have hN := (gN g).2
  have s1 := one_sm g hk
  apply Classical.byContradiction
  intro hn
  have hle := (hs v h1 hv k ((FB_iff h hN hv).mpr ⟨hk, e⟩)).1
  unfold alls at ha
  have hl : (shl rw co N bd hf k).length ≤ 4096 := shl_len N hN
  have hl2 := ctb_le i (shl rw co N bd hf k)
  rw [msO_ctw g h hk h1 hv e, msO_ctw g h hk h1 hv e, ctw_0, ctw_bit g hi, nI_eq (by omega) (by omega), ctb_all, show ((0 : Int32) < nI (shl rw co N bd hf k).length) = (nI 0 < nI (shl rw co N bd hf k).length) by rw [nI_0], nI_ltI (by decide) (by omega)] at ha
  obtain ⟨ha1, ha2⟩ := ha
  obtain ⟨s, hsm⟩ : ∃ s, s ∈ shl rw co N bd hf k := by
    cases hq : shl rw co N bd hf k with
    | nil => rw [hq] at ha1; exact absurd ha1 (by decide)
    | cons a t => exact ⟨a, List.mem_cons_self⟩
  have hbi := ha2 s hsm
  unfold shl at hsm
  rw [List.mem_filter, rng_mem] at hsm
  have hp : 2 ^ N ≤ 4096 := Nat.pow_le_pow_right (n := 2) (by decide) hN
  have hsx : sm N (nI s) := fun i hi _ => by
    rw [bt_nI (by omega)]
    exact Nat.testBit_lt_two_pow (Nat.lt_of_lt_of_le hsm.1 (Nat.pow_le_pow_right (by decide) hi))
  obtain ⟨z1, _, z3⟩ := (mish_iff g h hk h1 hv e hsx).mp hsm.2
  unfold zsh at z3
  rw [Bool.and_eq_true, Bool.and_eq_true, decide_eq_true_eq, bc_cn hN hsx] at z3
  have e2 := nI_inj (cn_12 _) (by omega) z3.1.1
  have hin : bt (gw rw co (f v) (zbit (nI k))) i = true := by
    cases hq : bt (gw rw co (f v) (zbit (nI k))) i
    · have := cn_lt z1 hq hbi 12 (by omega)
      unfold fsz at hle hn
      omega
    · rfl
  have hw := gw_w g s1 (fun j hj => by rw [(bt_one g hk).mp hj]; exact (FB_iff h hN hv).mpr ⟨hk, e⟩) i hin
  have := ((FB_iff h hN hv).mp hw).2
  rw [h0, ← nI_0] at this
  have := nI_inj (by omega) (by omega) this
  omega
theorem mshc_iff (g : gok rw co r c N) (h : FB N f bd) (hb : bv N bd) (hs : SND rw co f) {k i : Nat} (hk : k < N) (hi : i < N) : (mshc rw co bd (mlk rw co bd hf) (nI i) k = true ∧ alls rw co bd hf k i) ↔ frc rw co f bd hf k i := by
  have hN := (gN g).2
  obtain ⟨v, hv, e⟩ := hb k hk
  have s1 := one_sm g hk
  unfold mshc
  rw [e, mfo_gw g h hk hv e, mcn_cn hN (gw_sm g s1) 12 (by decide)]
  simp only [Bool.and_eq_true, decide_eq_true_eq]
  rw [low_iff hN (gw_sm g s1) hk, show ((0 : Int32) < nI v) = (nI 0 < nI v) by rw [nI_0], nI_ltI (by decide) (by omega), nI_ltI (cn_12 _) (by omega)]
  constructor
  · rintro ⟨⟨⟨⟨z1, z2⟩, z3⟩, z4⟩, z5⟩
    exact ⟨v, z1, hv, e, z3, z5, z4⟩
  · rintro ⟨w, z1, z2, z3, z4, z5, z6⟩
    rw [e] at z3
    have z3 := nI_inj (by omega) (by omega) z3
    subst z3
    exact ⟨⟨⟨⟨z1, frc_lt g h hs hk hi z1 hv e z5 (mft_0 (by omega) z6)⟩, z4⟩, z6⟩, z5⟩
theorem mshn_spec (g : gok rw co r c N) (h : FB N f bd) (hb : bv N bd) (hs : SND rw co f) {i : Nat} (hi : i < N) : ∀ j, j ≤ N →
    (∃ k, N - j ≤ k ∧ k < N ∧ frc rw co f bd hf k i ∧ (∀ k2, N - j ≤ k2 → k2 < k → ¬ frc rw co f bd hf k2 i) ∧ mshn rw co bd (mlk rw co bd hf) (nI i) N j = bd k) ∨ ((∀ k, N - j ≤ k → k < N → ¬ frc rw co f bd hf k i) ∧ mshn rw co bd (mlk rw co bd hf) (nI i) N j = 0)
  | 0, _ => Or.inr ⟨fun k h1 h2 => by omega, rfl⟩
  | j + 1, hj => by
    have hk : N - (j + 1) < N := by omega
    have key := mshc_iff (hf := hf) g h hb hs hk hi
    rw [mshn]
    by_cases hq : frc rw co f bd hf (N - (j + 1)) i
    · obtain ⟨z1, z2⟩ := key.mpr hq
      unfold alls at z2
      rw [if_pos z1, if_pos z2]
      exact Or.inl ⟨_, Nat.le_refl _, hk, hq, fun k2 h1 h2 => by omega, rfl⟩
    · have e : (if mshc rw co bd (mlk rw co bd hf) (nI i) (N - (j + 1)) = true then if 0 < msO rw co bd (mlk rw co bd hf) (nI (N - (j + 1))) 0 ∧ msO rw co bd (mlk rw co bd hf) (nI (N - (j + 1))) (zbit (nI i)) = msO rw co bd (mlk rw co bd hf) (nI (N - (j + 1))) 0 then bd (N - (j + 1)) else mshn rw co bd (mlk rw co bd hf) (nI i) N j else mshn rw co bd (mlk rw co bd hf) (nI i) N j) = mshn rw co bd (mlk rw co bd hf) (nI i) N j := by
        split
        · next z1 =>
          split
          · next z2 => exact absurd (key.mp ⟨z1, z2⟩) hq
          · rfl
        · rfl
      rw [e]
      rcases mshn_spec g h hb hs hi j (by omega) with ⟨k, h1, h2, h3, h4, h5⟩ | ⟨h1, h2⟩
      · refine Or.inl ⟨k, by omega, h2, h3, fun k2 h6 h7 => ?_, h5⟩
        by_cases e2 : k2 = N - (j + 1)
        · rw [e2]; exact hq
        · exact h4 k2 (by omega) h7
      · refine Or.inr ⟨fun k h3 h4 => ?_, h2⟩
        by_cases e2 : k = N - (j + 1)
        · rw [e2]; exact hq
        · exact h1 k (by omega) h4
theorem zlwF_spec {cc ac fc lc : Int32} {f : Nat → Int32} {all n : Int32} {a : Nat} (ha : a < 2 ^ 31) : ∀ j, j ≤ a → ∃ b, a - j ≤ b ∧ b ≤ a ∧ zlwF cc ac fc lc f all n (nI a) j = nI b ∧ (∀ i, a - j ≤ i → i < b → ¬ (zhas all (nI i) = true ∧ zct cc ac fc lc f (nI i) n = true)) ∧ (b < a → zhas all (nI b) = true ∧ zct cc ac fc lc f (nI b) n = true)
  | 0, _ => ⟨a, by omega, Nat.le_refl _, rfl, fun i h1 h2 => by omega, fun h => absurd h (Nat.lt_irrefl _)⟩
  | j + 1, hj => by
    rw [zlwF, nI_clamp ha]
    by_cases hq : (zhas all (nI (a - (j + 1))) && zct cc ac fc lc f (nI (a - (j + 1))) n) = true
    · rw [if_pos hq]
      rw [Bool.and_eq_true] at hq
      exact ⟨a - (j + 1), Nat.le_refl _, by omega, rfl, fun i h1 h2 => by omega, fun _ => hq⟩
    · rw [if_neg hq]
      rw [Bool.and_eq_true] at hq
      obtain ⟨b, h1, h2, h3, h4, h5⟩ := zlwF_spec (cc := cc) (ac := ac) (fc := fc) (lc := lc) (f := f) (all := all) (n := n) ha j (by omega)
      refine ⟨b, by omega, h2, h3, fun i h6 h7 => ?_, h5⟩
      by_cases e : i = a - (j + 1)
      · rw [e]; exact hq
      · exact h4 i (by omega) h7
/-- how far the class has looked: the cells below k, the lowest cell found, the number there, the cells of the fields seen -/
def Z2 (rw co : Int32) (r N : Nat) (f bd hf : Nat → Int32) (k a : Nat) (x2 x3 : Int32) : Prop :=
  (∀ i, i < N → (bt x3 i = true ↔ bd i = 0 ∨ ∃ k1, k1 < k ∧ ¬ bd k1 = 0 ∧ bt (zfo co (zac rw co) (zfc co r) (zlc co (zfc co r)) f (nI k1)) i = true)) ∧ a ≤ N ∧ (∀ i, i < a → ∀ k1, k1 < k → ¬ frc rw co f bd hf k1 i) ∧ (a = N → x2 = 0) ∧ (a < N → ∃ k1, k1 < k ∧ frc rw co f bd hf k1 a ∧ x2 = bd k1 ∧ ∀ k2, k2 < k1 → ¬ frc rw co f bd hf k2 a)
theorem zf2L_spec (g : gok rw co r c N) (h : FB N f bd) (hb : bv N bd) (hs : SND rw co f) : ∀ j, j ≤ N → ∀ a x2 x3, Z2 rw co r N f bd hf (N - j) a x2 x3 → ∃ a' x2' x3', Z2 rw co r N f bd hf N a' x2' x3' ∧ zf2L co (zac rw co) (zfc co r) (zlc co (zfc co r)) f N j (nI a) x2 x3 = if x2' = 0 then -1 else 10 * nI a' + x2'
  | 0, _, a, x2, x3, hz => ⟨a, x2, x3, hz, rfl⟩
  | j + 1, hj, a, x2, x3, hz => by
    have hN := (gN g).2
    have hk : N - (j + 1) < N := by omega
    have es : N - j = N - (j + 1) + 1 := by omega
    have ih := zf2L_spec g h hb hs j (by omega)
    rw [es] at ih
    revert hz hk ih
    rw [zf2L]
    generalize N - (j + 1) = k
    intro hz hk ih
    obtain ⟨q1, q2, q3, q4, q5⟩ := id hz
    rw [zhas_bt, cb_nI (by omega)]
    by_cases hx : bt x3 k = true
    · rw [if_pos hx]
      have hno : ∀ i, ¬ frc rw co f bd hf k i := by
        rintro i ⟨v, h1, hv, e, hl, _, _⟩
        rcases (q1 k hk).mp hx with h0 | ⟨k1, h2, h3, h4⟩
        · rw [e] at h0; exact nI_ne0 h1 (by omega) h0
        · obtain ⟨w, hw, e2⟩ := hb k1 (by omega)
          have hw1 : 1 ≤ w := by
            apply Classical.byContradiction
            intro hn; apply h3; rw [e2, show w = 0 by omega, nI_0]
          rw [zfo_gw g h (by omega) hw1 hw e2] at h4
          have hk1 : bt (f w) k1 = true := (FB_iff h hN hw).mpr ⟨by omega, e2⟩
          have hkw := gw_w g (one_sm g (show k1 < N by omega)) (fun j hj => by rw [(bt_one g (show k1 < N by omega)).mp hj]; exact hk1) k h4
          have e3 := ((FB_iff h hN hw).mp hkw).2
          rw [e] at e3
          have e3 := nI_inj (by omega) (by omega) e3
          subst e3
          have := hl k1 (by rw [gw_same g (by omega) hk1 h4]; exact gw_self g (by omega))
          omega
      refine ih a x2 x3 ⟨fun i hi => ?_, q2, fun i hi k1 h1 => ?_, q4, fun ha => ?_⟩
      · rw [q1 i hi]
        constructor
        · rintro (z | ⟨k1, h1, h2⟩)
          · exact Or.inl z
          · exact Or.inr ⟨k1, by omega, h2⟩
        · rintro (z | ⟨k1, h1, h2, h3⟩)
          · exact Or.inl z
          · by_cases e : k1 = k
            · subst e
              rcases (q1 k1 hk).mp hx with h0 | ⟨k2, h4, h5, h6⟩
              · exact absurd h0 h2
              · refine Or.inr ⟨k2, h4, h5, ?_⟩
                obtain ⟨w, hw, e2⟩ := hb k2 (by omega)
                have hw1 : 1 ≤ w := by
                  apply Classical.byContradiction
                  intro hn; apply h5; rw [e2, show w = 0 by omega, nI_0]
                rw [zfo_gw g h (by omega) hw1 hw e2] at h6 ⊢
                have hk2 : bt (f w) k2 = true := (FB_iff h hN hw).mpr ⟨by omega, e2⟩
                have hkw := gw_w g (one_sm g (show k2 < N by omega)) (fun j hj => by rw [(bt_one g (show k2 < N by omega)).mp hj]; exact hk2) k1 h6
                have e3 := ((FB_iff h hN hw).mp hkw).2
                rw [zfo_gw g h hk hw1 hw e3, gw_same g (by omega) hk2 h6] at h3
                exact h3
            · exact Or.inr ⟨k1, by omega, h2, h3⟩
      · by_cases e : k1 = k
        · rw [e]; exact hno i
        · exact q3 i hi k1 (by omega)
      · obtain ⟨k1, h1, h2⟩ := q5 ha
        exact ⟨k1, by omega, h2⟩
    · rw [if_neg hx]
      have hx2 := fun z => hx ((q1 k hk).mpr z)
      obtain ⟨v, hv, e⟩ := hb k hk
      have h1 : 1 ≤ v := by
        apply Classical.byContradiction
        intro hn; apply hx2; left; rw [e, show v = 0 by omega, nI_0]
      have hne : ¬ bd k = 0 := by rw [e]; exact nI_ne0 h1 (by omega)
      have hkv : bt (f v) k = true := (FB_iff h hN hv).mpr ⟨hk, e⟩
      have hlow : lowf rw co f v k := by
        intro i hi
        apply Classical.byContradiction
        intro hn
        have hiv := gw_w g (one_sm g hk) (fun j hj => by rw [(bt_one g hk).mp hj]; exact hkv) i hi
        have hi2 := (FB_iff h hN hv).mp hiv
        apply hx2
        right
        refine ⟨i, by omega, by rw [hi2.2]; exact nI_ne0 h1 (by omega), ?_⟩
        rw [zfo_gw g h hi2.1 h1 hv hi2.2, gw_same g hk hkv hi]
        exact gw_self g hk
      have hP : ∀ i, i < N → ((zhas (zli co (zac rw co) (zfc co r) (zlc co (zfc co r)) f (nI k) (fun _ => 0)).2.1 (nI i) = true ∧ zct co (zac rw co) (zfc co r) (zlc co (zfc co r)) f (nI i) (nI v) = true) ↔ frc rw co f bd hf k i) := by
        intro i hi
        rw [zli_2 (hf := hf) g h hk h1 hv e _ hi, zct_mft (hf := mlk rw co bd hf) g h hb hs hi h1 hv]
        constructor
        · rintro ⟨z1, z2⟩
          exact ⟨v, h1, hv, e, hlow, z1, z2⟩
        · rintro ⟨w, _, hw, e2, _, z1, z2⟩
          rw [e] at e2
          have e2 := nI_inj (by omega) (by omega) e2
          subst e2
          exact ⟨z1, z2⟩
      have h3' : ∀ i, i < N → ((bt (x3 ||| zfo co (zac rw co) (zfc co r) (zlc co (zfc co r)) f (nI k)) i = true) ↔ bd i = 0 ∨ ∃ k1, k1 < k + 1 ∧ ¬ bd k1 = 0 ∧ bt (zfo co (zac rw co) (zfc co r) (zlc co (zfc co r)) f (nI k1)) i = true) := by
        intro i hi
        rw [bt_or, Bool.or_eq_true, q1 i hi]
        constructor
        · rintro ((z | ⟨k1, z1, z2⟩) | z)
          · exact Or.inl z
          · exact Or.inr ⟨k1, by omega, z2⟩
          · exact Or.inr ⟨k, by omega, hne, z⟩
        · rintro (z | ⟨k1, z1, z2, z3⟩)
          · exact Or.inl (Or.inl z)
          · by_cases e2 : k1 = k
            · subst e2; exact Or.inr z3
            · exact Or.inl (Or.inr ⟨k1, by omega, z2, z3⟩)
      have hzl : ∃ b, b ≤ a ∧ zlw co (zac rw co) (zfc co r) (zlc co (zfc co r)) f (nI k) (nI a) (fun _ => 0) = nI b ∧ (∀ i, i < b → ¬ frc rw co f bd hf k i) ∧ (b < a → frc rw co f bd hf k b) := by
        unfold zlw
        rw [zni_FB h hN hk hv e, nI_clamp (by omega)]
        obtain ⟨b, _, h2, h3, h4, h5⟩ := zlwF_spec (cc := co) (ac := zac rw co) (fc := zfc co r) (lc := zlc co (zfc co r)) (f := f) (all := (zli co (zac rw co) (zfc co r) (zlc co (zfc co r)) f (nI k) (fun _ => 0)).2.1) (n := nI v) (a := a) (by omega) a (Nat.le_refl _)
        exact ⟨b, h2, h3, fun i hi z => h4 i (by omega) hi ((hP i (by omega)).mpr z), fun hba => (hP b (by omega)).mp (h5 hba)⟩
      obtain ⟨b, b1, b2, b3, b4⟩ := hzl
      rw [b2]
      by_cases hab : a ≤ b
      · rw [if_pos (nI_le hab (by omega))]
        have : b = a := by omega
        subst this
        refine ih b x2 _ ⟨h3', q2, fun i hi k1 z1 => ?_, q4, fun ha => ?_⟩
        · by_cases e2 : k1 = k
          · rw [e2]; exact b3 i hi
          · exact q3 i hi k1 (by omega)
        · obtain ⟨k1, z1, z2⟩ := q5 ha
          exact ⟨k1, by omega, z2⟩
      · rw [if_neg (fun z => hab (k_le (by omega) (by omega) z)), zni_FB h hN hk hv e]
        refine ih b (nI v) _ ⟨h3', by omega, fun i hi k1 z1 => ?_, fun z => by omega, fun _ => ⟨k, by omega, b4 (by omega), e.symm, fun k2 z1 => q3 b (by omega) k2 z1⟩⟩
        by_cases e2 : k1 = k
        · rw [e2]; exact b3 i hi
        · exact q3 i (by omega) k1 (by omega)
theorem mrunF1_spec (g : gok rw co r c N) (h : FB N f bd) (hb : bv N bd) (hs : SND rw co f) : ∀ j, j ≤ N →
    (∃ i k, N - j ≤ i ∧ i < N ∧ k < N ∧ (∀ i2, N - j ≤ i2 → i2 < i → ∀ k2, k2 < N → ¬ frc rw co f bd hf k2 i2) ∧ frc rw co f bd hf k i ∧ (∀ k2, k2 < k → ¬ frc rw co f bd hf k2 i) ∧ mrunF rw co bd (mlk rw co bd hf) 1 N j = some (i, bd k)) ∨ ((∀ i, N - j ≤ i → i < N → ∀ k, k < N → ¬ frc rw co f bd hf k i) ∧ mrunF rw co bd (mlk rw co bd hf) 1 N j = none)
  | 0, _ => Or.inr ⟨fun i h1 h2 => by omega, rfl⟩
  | j + 1, hj => by
    have hN := (gN g).2
    have hi : N - (j + 1) < N := by omega
    have e1 : mrun1 rw co bd (mlk rw co bd hf) 1 (nI (N - (j + 1))) = mshn rw co bd (mlk rw co bd hf) (nI (N - (j + 1))) N N := by
      unfold mrun1; rw [if_neg (by decide), if_pos rfl, gmN g]
    rw [mrunF, e1]
    rcases mshn_spec (hf := hf) g h hb hs hi N (Nat.le_refl _) with ⟨k, _, h2, h3, h4, h5⟩ | ⟨h1, h2⟩
    · obtain ⟨v, v1, v2, v3, _, _, v6⟩ := id h3
      rw [h5, v3, if_pos ⟨mft_0 (by omega) v6, pos_nI v1 v2⟩]
      exact Or.inl ⟨_, k, Nat.le_refl _, hi, h2, fun i2 z1 z2 => by omega, h3, fun k2 z => h4 k2 (by omega) z, by rw [v3]⟩
    · rw [h2, if_neg (fun z => absurd z.2 (by decide))]
      rcases mrunF1_spec g h hb hs j (by omega) with ⟨i, k, z1, z2, z3, z4, z5⟩ | ⟨z1, z2⟩
      · refine Or.inl ⟨i, k, by omega, z2, z3, fun i2 y1 y2 => ?_, z5⟩
        by_cases e : i2 = N - (j + 1)
        · rw [e]; exact fun k2 hk2 => h1 k2 (by omega) hk2
        · exact z4 i2 (by omega) y2
      · refine Or.inr ⟨fun i y1 y2 => ?_, z2⟩
        by_cases e : i = N - (j + 1)
        · rw [e]; exact fun k2 hk2 => h1 k2 (by omega) hk2
        · exact z1 i (by omega) y2
theorem zf2_eq (g : gok rw co r c N) (h : FB N f bd) (hb : bv N bd) (hs : SND rw co f) : zf2 co (zac rw co) (zfc co r) (zlc co (zfc co r)) f = enc (mrunF rw co bd (mlk rw co bd hf) 1 N N) := by
  have hN := (gN g).2
  unfold zf2
  rw [gzN g, gbc g]
  obtain ⟨a, x2, x3, ⟨_, q2, q3, q4, q5⟩, e⟩ := zf2L_spec (hf := hf) g h hb hs N (Nat.le_refl _) N 0 (f 0) ⟨fun i hi => by
    rw [FB_0 h hN]
    constructor
    · rintro ⟨_, z⟩; exact Or.inl z
    · rintro (z | ⟨k1, z, _⟩)
      · exact ⟨hi, z⟩
      · omega, Nat.le_refl _, fun i _ k1 z => by omega, fun _ => rfl, fun z => absurd z (Nat.lt_irrefl _)⟩
  rw [e]
  rcases mrunF1_spec (hf := hf) g h hb hs N (Nat.le_refl _) with ⟨i, k, _, z2, z3, z4, z5, z6, z7⟩ | ⟨z1, z2⟩
  · rw [z7]
    have hai : ¬ a = N := fun e2 => q3 i (by omega) k z3 z5
    obtain ⟨k1, y1, y2, y3, y4⟩ := q5 (by omega)
    have e3 : a = i := by
      apply Classical.byContradiction
      intro hne
      by_cases hlt : a < i
      · exact z4 a (by omega) hlt k1 y1 y2
      · exact q3 i (by omega) k z3 z5
    subst e3
    have e4 : k1 = k := by
      apply Classical.byContradiction
      intro hne
      by_cases hlt : k1 < k
      · exact z6 k1 hlt y2
      · exact y4 k (by omega) z5
    subst e4
    obtain ⟨v, v1, v2, v3, _⟩ := y2
    rw [y3, if_neg (by rw [v3]; exact nI_ne0 v1 (by omega))]
    rfl
  · rw [z2]
    have : a = N := by
      apply Classical.byContradiction
      intro hne
      obtain ⟨k1, y1, y2, _⟩ := q5 (by omega)
      exact z1 a (by omega) (by omega) k1 y1 y2
    rw [q4 this, if_pos rfl]
    rfl
end
