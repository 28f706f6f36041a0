/-! the two boards are one: bits of small masks, cells beside each other -/
def gok (rw co : Int32) (r c N : Nat) : Prop := rw = nI r ∧ co = nI c ∧ 2 ≤ r ∧ r ≤ 4 ∧ 2 ≤ c ∧ c ≤ 4 ∧ r * c = N ∧ N ≤ 12
theorem gok_all {rw co : Int32} {r c N : Nat} (g : gok rw co r c N) {P : Nat → Nat → Prop} (h : P 2 2 ∧ P 2 3 ∧ P 2 4 ∧ P 3 2 ∧ P 3 3 ∧ P 3 4 ∧ P 4 2 ∧ P 4 3) : P r c := by
  obtain ⟨-, -, h1, h2, h3, h4, h5, h6⟩ := g
  obtain ⟨p1, p2, p3, p4, p5, p6, p7, p8⟩ := h
  have hr : r = 2 ∨ r = 3 ∨ r = 4 := by omega
  have hc : c = 2 ∨ c = 3 ∨ c = 4 := by omega
  rcases hr with rfl | rfl | rfl <;> rcases hc with rfl | rfl | rfl <;> first | assumption | (exfalso; omega)
def sm (N : Nat) (x : Int32) : Prop := ∀ i, N ≤ i → i < 32 → bt x i = false
theorem bt_hi (x : Int32) {i : Nat} (h : 32 ≤ i) : bt x i = false := BitVec.getLsbD_of_ge _ _ h
theorem sm_lt {N : Nat} {x : Int32} (h : sm N x) {i : Nat} (hb : bt x i = true) : i < N := by
  apply Classical.byContradiction
  intro hn
  by_cases h32 : i < 32
  · rw [h i (by omega) h32] at hb; exact absurd hb (by decide)
  · rw [bt_hi x (by omega)] at hb; exact absurd hb (by decide)
theorem sm_ge {N : Nat} {x : Int32} (h : sm N x) {i : Nat} (hi : N ≤ i) : bt x i = false := by
  by_cases h32 : i < 32
  · exact h i hi h32
  · exact bt_hi x (by omega)
theorem gac {rw co : Int32} {r c N : Nat} (g : gok rw co r c N) {i : Nat} (hi : i < 32) : bt (zac rw co) i = decide (i < N) := by
  obtain ⟨rfl, rfl, _, _, _, _, rfl, _⟩ := id g
  exact gok_all (P := fun r c => ∀ i, i < 32 → bt (zac (nI r) (nI c)) i = decide (i < r * c)) g (by decide +kernel) i hi
theorem gfc {rw co : Int32} {r c N : Nat} (g : gok rw co r c N) {i : Nat} (hi : i < 32) : bt (zfc co r) i = decide (i < N ∧ i % c = 0) := by
  obtain ⟨rfl, rfl, _, _, _, _, rfl, _⟩ := id g
  exact gok_all (P := fun r c => ∀ i, i < 32 → bt (zfc (nI c) r) i = decide (i < r * c ∧ i % c = 0)) g (by decide +kernel) i hi
theorem glc {rw co : Int32} {r c N : Nat} (g : gok rw co r c N) {i : Nat} (hi : i < 32) : bt (zlc co (zfc co r)) i = decide (i < N ∧ i % c = c - 1) := by
  obtain ⟨rfl, rfl, _, _, _, _, rfl, _⟩ := id g
  exact gok_all (P := fun r c => ∀ i, i < 32 → bt (zlc (nI c) (zfc (nI c) r)) i = decide (i < r * c ∧ i % c = c - 1)) g (by decide +kernel) i hi
theorem gbc {rw co : Int32} {r c N : Nat} (g : gok rw co r c N) : bc (zac rw co) = nI N := by
  obtain ⟨rfl, rfl, _, _, _, _, rfl, _⟩ := id g
  exact gok_all (P := fun r c => bc (zac (nI r) (nI c)) = nI (r * c)) g (by decide +kernel)
theorem gmul {rw co : Int32} {r c N : Nat} (g : gok rw co r c N) : rw * co = nI N := by
  obtain ⟨rfl, rfl, _, _, _, _, rfl, _⟩ := id g
  exact gok_all (P := fun r c => nI r * nI c = nI (r * c)) g (by decide +kernel)
theorem gN {rw co : Int32} {r c N : Nat} (g : gok rw co r c N) : 4 ≤ N ∧ N ≤ 12 := by
  obtain ⟨rfl, rfl, _, _, _, _, rfl, _⟩ := id g
  exact gok_all (P := fun r c => 4 ≤ r * c ∧ r * c ≤ 12) g (by decide +kernel)
theorem gzN {rw co : Int32} {r c N : Nat} (g : gok rw co r c N) : zN (zac rw co) = N := by
  unfold zN; rw [gbc g, nI_clamp (by have := (gN g).2; omega)]
theorem gmN {rw co : Int32} {r c N : Nat} (g : gok rw co r c N) : mN rw co = N := mN_of (gN g).2 (gmul g)
theorem gr {rw co : Int32} {r c N : Nat} (g : gok rw co r c N) : rw.toNatClampNeg = r := by
  obtain ⟨rfl, _, _, h, _⟩ := g
  exact nI_clamp (by omega)
theorem smod_k : ∀ k, k < 32 → ((nI k).toBitVec.smod 32).toNat = k := by decide +kernel
theorem and31 : ∀ k, k < 32 → nI k &&& 31 = nI k := by decide +kernel
theorem uand31 : ∀ k, k < 32 → ((nI k).toUInt32 &&& Int32.toUInt32 31).toNat % 32 = k := by decide +kernel
theorem bt_shl {k : Nat} (hk : k < 32) (x : Int32) {i : Nat} (hi : i < 32) : bt (x <<< nI k) i = (decide (k ≤ i) && bt x (i - k)) := by
  show (x <<< nI k).toBitVec.getLsbD i = _
  rw [Int32.toBitVec_shiftLeft, BitVec.shiftLeft_eq', smod_k k hk, BitVec.getLsbD_shiftLeft]
  unfold bt
  by_cases h : k ≤ i
  · simp [hi, h, Nat.not_lt.mpr h]
  · simp [hi, h, Nat.lt_of_not_le h]
theorem bt_shr {k : Nat} (hk : k < 32) {x : Int32} (hx : bt x 31 = false) (i : Nat) : bt (x >>> nI k) i = bt x (i + k) := by
  show (x >>> nI k).toBitVec.getLsbD i = _
  rw [Int32.toBitVec_shiftRight, BitVec.sshiftRight_eq', smod_k k hk, BitVec.getLsbD_sshiftRight]
  have hm : x.toBitVec.msb = false := by rw [BitVec.msb_eq_getLsbD_last]; exact hx
  rw [hm]
  by_cases h : k + i < 32
  · simp only [h, if_true]
    have : ¬ 32 ≤ i := by omega
    simp [this, bt, Nat.add_comm]
  · simp only [h, if_false, Bool.and_false]
    rw [bt_hi x (by omega)]
theorem bt_zus {k : Nat} (hk : k < 32) (x : Int32) (i : Nat) : bt (zus x (nI k)) i = bt x (i + k) := by
  show ((x.toUInt32 >>> ((nI k).toUInt32 &&& Int32.toUInt32 31)).toInt32).toBitVec.getLsbD i = _
  show (x.toUInt32 >>> ((nI k).toUInt32 &&& Int32.toUInt32 31)).toBitVec.getLsbD i = _
  rw [UInt32.toBitVec_shiftRight, BitVec.ushiftRight_eq', BitVec.getLsbD_ushiftRight]
  have e : (((nI k).toUInt32 &&& Int32.toUInt32 31).toBitVec % 32).toNat = k := uand31 k hk
  rw [e, Nat.add_comm]; rfl
theorem sm31 {N : Nat} (hN : N ≤ 12) {x : Int32} (h : sm N x) : bt x 31 = false := h 31 (by omega) (by decide)
theorem sm_and {N : Nat} {x : Int32} (h : sm N x) (y : Int32) : sm N (x &&& y) := fun i h1 h2 => by rw [bt_and, h i h1 h2]; rfl
theorem sm_and' {N : Nat} {x : Int32} (h : sm N x) (y : Int32) : sm N (y &&& x) := fun i h1 h2 => by rw [bt_and, h i h1 h2, Bool.and_false]
theorem sm_or {N : Nat} {x y : Int32} (h : sm N x) (h' : sm N y) : sm N (x ||| y) := fun i h1 h2 => by rw [bt_or, h i h1 h2, h' i h1 h2]; rfl
theorem sm_0 (N : Nat) : sm N 0 := fun i _ _ => bt_0 i
theorem sm_zbit {N k : Nat} (h : k < N) (hN : N ≤ 12) : sm N (zbit (nI k)) := fun i h1 h2 => by rw [bt_zbit _ h2, cb_nI (by omega), decide_eq_false (by omega)]
def beB (c N : Nat) (x : Int32) (j : Nat) : Bool := decide (j < N) && ((((decide (c ≤ j) && bt x (j - c)) || bt x (j + c)) || (decide (1 ≤ j) && (bt x (j - 1) && !decide ((j - 1) % c = c - 1)))) || (bt x (j + 1) && !decide ((j + 1) % c = 0)))
theorem bt_mbs {rw co : Int32} {r c N : Nat} (g : gok rw co r c N) {x : Int32} (hx : sm N x) {j : Nat} (hj : j < 32) : bt (mbs rw co x) j = beB c N x j := by
  have hN := (gN g).2
  have hc : c < 32 := by obtain ⟨_, _, _, _, _, h, _⟩ := g; omega
  have eco : co = nI c := g.2.1
  unfold mbs
  rw [gr g, bt_and, bt_or, bt_or, bt_or, show ((1 : Int32) &&& 31) = nI 1 from rfl]
  have e1 : co &&& 31 = nI c := by rw [eco]; exact and31 c hc
  rw [e1, bt_shl hc _ hj, bt_shr hc (sm31 hN hx), bt_shl (k := 1) (by decide) _ hj, bt_shr (k := 1) (by decide) (sm31 hN (sm_and hx _)), bt_and, bt_and, show mall rw co = zac rw co from rfl, gac g hj]
  unfold beB
  have a1 : (decide (1 ≤ j) && (bt x (j - 1) && bt (zlc co (zfc co r) ^^^ (-1)) (j - 1))) = (decide (1 ≤ j) && (bt x (j - 1) && !decide ((j - 1) % c = c - 1))) := by
    rw [bt_not (by omega), glc g (by omega)]
    cases hb : bt x (j - 1)
    · simp
    · have := sm_lt hx hb
      simp [this]
  have a2 : (bt x (j + 1) && bt (zfc co r ^^^ (-1)) (j + 1)) = (bt x (j + 1) && !decide ((j + 1) % c = 0)) := by
    cases hb : bt x (j + 1)
    · simp
    · have := sm_lt hx hb
      rw [bt_not (by omega), gfc g (by omega)]
      simp [this]
  rw [a1, a2, Bool.and_comm]
theorem zbs_mbs {rw co : Int32} {r c N : Nat} (g : gok rw co r c N) {x : Int32} (hx : sm N x) : zbs co (zac rw co) (zfc co r) (zlc co (zfc co r)) x = mbs rw co x := by
  have hN := (gN g).2
  have hc : c < 32 := by obtain ⟨_, _, _, _, _, h, _⟩ := g; omega
  have eco : co = nI c := g.2.1
  have e1 : co &&& 31 = nI c := by rw [eco]; exact and31 c hc
  apply bt_ext
  intro i hi
  unfold zbs mbs
  rw [gr g]
  simp only [bt_and, bt_or]
  rw [show ((1 : Int32) &&& 31) = nI 1 from rfl, e1, show zus (x &&& (zfc co r ^^^ (-1))) 1 = zus (x &&& (zfc co r ^^^ (-1))) (nI 1) from rfl, bt_zus (by decide), bt_shr (k := 1) (by decide) (sm31 hN (sm_and hx _)), bt_shr hc (sm31 hN hx), show zus x co = zus x (nI c) by rw [eco], bt_zus hc, show mall rw co = zac rw co from rfl]
  cases bt (x &&& (zfc co r ^^^ (-1))) (i + 1) <;> cases bt (x &&& (zlc co (zfc co r) ^^^ (-1)) <<< nI 1) i <;> cases bt x (i + c) <;> cases bt (x <<< nI c) i <;> cases bt (zac rw co) i <;> simp_all
