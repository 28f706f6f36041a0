/-! counts of small masks, lowest cells -/
def cn (x : Int32) : Nat → Nat | 0 => 0 | k + 1 => cn x k + (if bt x k then 1 else 0)
theorem cn_le (x : Int32) : ∀ k, cn x k ≤ k
  | 0 => Nat.le_refl 0
  | k + 1 => by have := cn_le x k; simp only [cn]; split <;> omega
theorem bit_k {N : Nat} (hN : N ≤ 12) {x : Int32} (hx : sm N x) {k : Nat} (hk : k < 32) : (x >>> (nI k &&& 31)) &&& 1 = if bt x k then 1 else 0 := by
  rw [and31 k hk]
  apply bt_ext
  intro i hi
  rw [bt_and, bt_shr hk (sm31 hN hx)]
  have h1 : ∀ i, i < 32 → bt 1 i = decide (i = 0) := by decide
  rw [h1 i hi]
  by_cases h : i = 0
  · subst h
    rw [Nat.zero_add]
    cases bt x k <;> decide
  · rw [decide_eq_false h, Bool.and_false]
    split
    · rw [h1 i hi, decide_eq_false h]
    · rw [bt_0]
theorem mcn_cn {N : Nat} (hN : N ≤ 12) {x : Int32} (hx : sm N x) : ∀ k, k ≤ 32 → mcn x k = nI (cn x k)
  | 0, _ => nI_0.symm
  | k + 1, h => by
    rw [mcn, mcn_cn hN hx k (by omega), bit_k hN hx (by omega), cn]
    split
    · exact nI_1 _
    · rw [Int32.add_zero]; rfl
theorem sm_nI {N : Nat} (hN : N ≤ 12) {x : Int32} (hx : sm N x) : ∃ n : Nat, n < 4096 ∧ x = nI n := by
  refine ⟨x.toBitVec.toNat, ?_, ?_⟩
  · apply Nat.lt_pow_two_of_testBit (n := 12)
    intro i hi
    show bt x i = false
    exact sm_ge hx (by omega)
  · apply Int32.toBitVec_inj.mp
    show x.toBitVec = BitVec.ofNat 32 x.toBitVec.toNat
    rw [BitVec.ofNat_toNat, BitVec.setWidth_eq]
theorem bc_all0 : ∀ a, a < 64 → ∀ b, b < 64 → bc (nI (64 * a + b)) = mcn (nI (64 * a + b)) 12 := by decide +kernel
theorem bc_all (n : Nat) (h : n < 4096) : bc (nI n) = mcn (nI n) 12 := by
  have := bc_all0 (n / 64) (by omega) (n % 64) (Nat.mod_lt _ (by decide))
  rwa [Nat.div_add_mod] at this
def lowP (n : Nat) : Bool := n == 0 || (List.range 12).any (fun k => zlow (nI n) == zbit (nI k) && bt (nI n) k)
theorem low_all0 : ∀ a, a < 64 → ∀ b, b < 64 → lowP (64 * a + b) = true := by decide +kernel
theorem low_all (n : Nat) (h : n < 4096) : lowP n = true := by
  have := low_all0 (n / 64) (by omega) (n % 64) (Nat.mod_lt _ (by decide))
  rwa [Nat.div_add_mod] at this
theorem bc_cn {N : Nat} (hN : N ≤ 12) {x : Int32} (hx : sm N x) : bc x = nI (cn x 12) := by
  rw [← mcn_cn hN hx 12 (by decide)]
  obtain ⟨n, h1, rfl⟩ := sm_nI hN hx
  exact bc_all n h1
theorem low_one {N : Nat} (hN : N ≤ 12) {x : Int32} (hx : sm N x) (h0 : ¬ x = 0) : ∃ k, k < N ∧ bt x k = true ∧ zlow x = zbit (nI k) := by
  obtain ⟨n, h1, rfl⟩ := sm_nI hN hx
  have h := low_all n h1
  unfold lowP at h
  rw [Bool.or_eq_true, List.any_eq_true] at h
  rcases h with h | ⟨k, _, h⟩
  · rw [beq_iff_eq] at h
    subst h
    exact absurd nI_0 h0
  · rw [Bool.and_eq_true, beq_iff_eq] at h
    exact ⟨k, sm_lt hx h.2, h.2, h.1⟩
theorem cn_mono {x y : Int32} (h : ∀ i, bt x i = true → bt y i = true) : ∀ k, cn x k ≤ cn y k
  | 0 => Nat.le_refl 0
  | k + 1 => by
    have := cn_mono h k
    have h2 := h k
    simp only [cn]
    split
    · next h3 => rw [if_pos (h2 h3)]; omega
    · split <;> omega
theorem cn_lt {x y : Int32} (h : ∀ i, bt x i = true → bt y i = true) {j : Nat} (hx : bt x j = false) (hy : bt y j = true) : ∀ k, j < k → cn x k < cn y k
  | 0, hk => absurd hk (Nat.not_lt_zero _)
  | k + 1, hk => by
    simp only [cn]
    by_cases e : j = k
    · subst e
      have := cn_mono h j
      rw [if_pos hy, if_neg (by rw [hx]; decide)]; omega
    · have := cn_lt h hx hy k (by omega)
      have h2 := h k
      split
      · next h3 => rw [if_pos (h2 h3)]; omega
      · split <;> omega
theorem cn_zero {x : Int32} : ∀ k, cn x k = 0 → ∀ i, i < k → bt x i = false
  | 0, _, i, hi => absurd hi (Nat.not_lt_zero _)
  | k + 1, h, i, hi => by
    simp only [cn] at h
    by_cases e : i = k
    · subst e
      cases hb : bt x i
      · rfl
      · rw [hb] at h; simp at h
    · exact cn_zero k (by omega) i (by omega)
theorem sm_zero {N : Nat} {x : Int32} (hx : sm N x) (hN : N ≤ 12) (h : cn x 12 = 0) : x = 0 := by
  apply bt_ext
  intro i hi
  rw [bt_0]
  by_cases h2 : i < 12
  · exact cn_zero 12 h i h2
  · exact hx i (by omega) hi
/-- the loop over the fields of a mask -/
def zlp (rw co w : Int32) (P : Int32 → Bool) : Nat → Int32 → Bool | 0, _ => false | j + 1, left => if left = 0 then false else if P (gw rw co w (zlow left)) then true else zlp rw co w P j (left &&& (gw rw co w (zlow left) ^^^ (-1)))
theorem zlp_iff {rw co : Int32} {r c N : Nat} (g : gok rw co r c N) {w : Int32} {P : Int32 → Bool} : ∀ (n : Nat) (left : Int32), sm N left → (∀ i, bt left i = true → bt w i = true) → cn left 12 ≤ n →
    (zlp rw co w P n left = true ↔ ∃ k, bt left k = true ∧ P (gw rw co w (zbit (nI k))) = true)
  | 0, left, hs, hw, h => by
    have e := sm_zero hs (gN g).2 (by omega)
    subst e
    constructor
    · intro h; simp [zlp] at h
    · rintro ⟨k, h, _⟩; rw [bt_0] at h; exact absurd h (by decide)
  | n + 1, left, hs, hw, h => by
    have hN := (gN g).2
    rw [zlp]
    by_cases h0 : left = 0
    · subst h0
      rw [if_pos rfl]
      constructor
      · intro h; exact absurd h (by decide)
      · rintro ⟨k, h, _⟩; rw [bt_0] at h; exact absurd h (by decide)
    · rw [if_neg h0]
      obtain ⟨k0, hk, hb, e⟩ := low_one hN hs h0
      rw [e]
      by_cases hp : P (gw rw co w (zbit (nI k0))) = true
      · rw [if_pos hp]
        exact ⟨fun _ => ⟨k0, hb, hp⟩, fun _ => rfl⟩
      · rw [if_neg hp]
        have hlt : cn (left &&& (gw rw co w (zbit (nI k0)) ^^^ (-1))) 12 < cn left 12 := by
          refine cn_lt (fun i hi => ?_) (j := k0) ?_ hb 12 (by omega)
          · rw [bt_and, Bool.and_eq_true] at hi; exact hi.1
          · rw [bt_and, bt_not (by omega), gw_self g hk, hb]; rfl
        rw [zlp_iff g n _ (sm_and hs _) (fun i hi => hw i (by rw [bt_and, Bool.and_eq_true] at hi; exact hi.1)) (by omega)]
        constructor
        · rintro ⟨k, h1, h2⟩
          rw [bt_and, Bool.and_eq_true] at h1
          exact ⟨k, h1.1, h2⟩
        · rintro ⟨k, h1, h2⟩
          refine ⟨k, ?_, h2⟩
          have hkN := sm_lt hs h1
          rw [bt_and, bt_not (by omega), h1]
          cases h3 : bt (gw rw co w (zbit (nI k0))) k
          · rfl
          · rw [gw_same g hk (hw k0 hb) h3] at h2
            exact absurd h2 hp
