/-! the law's own methods: what they answer -/
def lnx (w a b : Int32) : Bool := decide (((a / w) - (b / w)) * ((a / w) - (b / w)) + ((a - a / w * w) - (b - b / w * w)) * ((a - a / w * w) - (b - b / w * w)) = 1)
def lco (bd : Nat → Int32) (n : Int32) : Nat → Int32 | 0 => 0 | k + 1 => if bd k = n then lco bd n k ||| zbit (nI k) else lco bd n k
def PG (fb fg : Nat → Int32) : Prop := ∃ r c N : Nat, gok (fg 0) (fg 1) r c N ∧ bv 12 fb
def lso (fb fg : Nat → Int32) : Bool := mso (fg 0) (fg 1) fb (fun _ => 0)
def cel (fg : Nat → Int32) (p : Int32) : Prop := ∃ k : Nat, k < mN (fg 0) (fg 1) ∧ p = nI k
def PS (fg : Nat → Int32) (r : Nat) (ccc cac cfc clc bcc bac bfc blc : Int32) : Prop := (ccc = fg 1 ∧ cac = zac (fg 0) (fg 1) ∧ cfc = zfc (fg 1) r ∧ clc = zlc (fg 1) (zfc (fg 1) r)) ∧ bcc = fg 1 ∧ bac = zac (fg 0) (fg 1) ∧ bfc = zfc (fg 1) r ∧ blc = zlc (fg 1) (zfc (fg 1) r)
/-- the workshop's boards are the law's: numbers, clues -/
def PK (ccc cac cfc clc : Int32) (cf : Nat → Int32) (bcc bac bfc blc : Int32) (bf fb fk fg : Nat → Int32) : Prop :=
  ∃ (r c N : Nat) (cl : Int32), RB (fg 0) (fg 1) r c N bf cf fb cl ∧ PS fg r ccc cac cfc clc bcc bac bfc blc ∧ ∀ k, k < 12 → fk k = if bt cl k then 1 else 0
/-- .. and the filled cells too -/
def PI (lgd ccc cac cfc clc : Int32) (cf : Nat → Int32) (bcc bac bfc blc : Int32) (bf lgf fb fk fg fl : Nat → Int32) : Prop :=
  ∃ (r c N n : Nat) (cl : Int32), RB (fg 0) (fg 1) r c N bf cf fb cl ∧ PS fg r ccc cac cfc clc bcc bac bfc blc ∧ (∀ k, k < 12 → fk k = if bt cl k then 1 else 0) ∧ lgd = nI n ∧ fg 2 = nI n ∧ RL_ N bf fb cl lgf fl n
theorem lco_mhv (bd : Nat → Int32) (j : Nat) : ∀ k, lco bd (nI j) k = mhv bd j k
  | 0 => rfl
  | k + 1 => by rw [lco, mhv, lco_mhv bd j k]
theorem lnx_all : ∀ c, c < 5 → 2 ≤ c → ∀ i, i < 12 → ∀ j, j < 12 → lnx (nI c) (nI i) (nI j) = decide (j = i + c ∨ i = j + c ∨ (j = i + 1 ∧ ¬ i % c = c - 1) ∨ (i = j + 1 ∧ ¬ i % c = 0)) := by decide +kernel
theorem lnx_nbr {rw co : Int32} {r c N : Nat} (g : gok rw co r c N) {i j : Nat} (hi : i < N) (hj : j < N) : lnx co (nI i) (nI j) = true ↔ nbr c N i j := by
  have hN := (gN g).2
  have hc := gc3 g
  obtain ⟨-, e, -⟩ := g
  rw [e, lnx_all c (by omega) (by omega) i (by omega) j (by omega), decide_eq_true_eq]
  unfold nbr
  exact ⟨fun h => ⟨hi, hj, h⟩, fun h => h.2.2⟩
theorem gco0 {rw co : Int32} {r c N : Nat} (g : gok rw co r c N) : ¬ co = 0 := by
  have hc := gc3 g
  obtain ⟨-, e, -⟩ := g
  rw [e]
  rcases hc with rfl | rfl | rfl <;> decide
theorem i_or0 (x : Int32) : x ||| 0 = x := bt_eq (fun i => by rw [bt_or, bt_0, Bool.or_false])
theorem sm_12 {N : Nat} (hN : N ≤ 12) {x : Int32} (h : sm N x) : sm 12 x := fun i h1 h2 => h i (by omega) h2
theorem lco_sm {N : Nat} (hN : N ≤ 12) {bd : Nat → Int32} {v : Nat} : sm N (lco bd (nI v) N) := by
  rw [lco_mhv]
  intro i h1 h2
  rw [bt_mhv N hN i h2, decide_eq_false (by omega)]
theorem lco_fob {N : Nat} {bd : Nat → Int32} {v : Nat} : lco bd (nI v) N = fob N bd v := lco_mhv bd v N
def ve_L_areNext (fg : Nat → Int32) (p1 : Int32) (p2 : Int32) (P : Int32 → Unit → Prop)  : Prop := ¬ (fg 1) = 0 ∧ ¬ (fg 1) = 0 ∧ ∀ y_3 : Int32, y_3 = (p1 / (fg 1)) - (p2 / (fg 1)) → ¬ (fg 1) = 0 ∧ ¬ (fg 1) = 0 ∧ ∀ y_6 : Int32, y_6 = (p1 - p1 / (fg 1) * (fg 1)) - (p2 - p2 / (fg 1) * (fg 1)) → (((y_3 * y_3) + (y_6 * y_6)) = 1 → P 1 ()) ∧ (¬ ((y_3 * y_3) + (y_6 * y_6)) = 1 → P 0 ())
def vs_L_many_4 (p0 : Int32) (P : Int32 → Unit → Prop) (J4 : Int32 → Int32 → Prop) (x1 : Int32) (x2 : Int32) : Prop := (x2 = 0 → P x1 ()) ∧ (¬ x2 = 0 → ∀ y_2 : Int32, y_2 = x1 + 1 → ∀ y_3 : Int32, y_3 = x2 &&& (x2 - 1) → (J4 y_2 y_3))
def ve_L_many (p0 : Int32) (P : Int32 → Unit → Prop) (J4 : Int32 → Int32 → Prop) : Prop := (J4 0 p0)
def vs_L_over_7 (fg : Nat → Int32) (p1 : Int32) (p2 : Int32) (P : Int32 → Unit → Prop) (J7 : Int32 → Int32 → Prop) (J19 : Int32 → Int32 → Int32 → Prop) (J34 : Int32 → Int32 → Int32 → Int32 → Prop) (x3 : Int32) (x4 : Int32) : Prop := (x3 = x4 → P x3 ()) ∧ (¬ x3 = x4 → (J19 x3 x3 0))
def vs_L_over_19 (fg : Nat → Int32) (p1 : Int32) (p2 : Int32) (P : Int32 → Unit → Prop) (J7 : Int32 → Int32 → Prop) (J19 : Int32 → Int32 → Int32 → Prop) (J34 : Int32 → Int32 → Int32 → Int32 → Prop) (x3 : Int32) (x4 : Int32) (x5 : Int32) : Prop := (((fg 0) * (fg 1)) ≤ x5 → (J7 x3 x4)) ∧ (¬ ((fg 0) * (fg 1)) ≤ x5 → (J34 x3 x4 x5 0))
def vs_L_over_34 (fg : Nat → Int32) (p1 : Int32) (p2 : Int32) (P : Int32 → Unit → Prop) (J7 : Int32 → Int32 → Prop) (J19 : Int32 → Int32 → Int32 → Prop) (J34 : Int32 → Int32 → Int32 → Int32 → Prop) (x3 : Int32) (x4 : Int32) (x5 : Int32) (x6 : Int32) : Prop := (((fg 0) * (fg 1)) ≤ x6 → ∀ y_4 : Int32, y_4 = x5 + 1 → (J19 x3 x4 y_4)) ∧ (¬ ((fg 0) * (fg 1)) ≤ x6 → (((x3 >>> (x6 &&& 31)) &&& 1) = 1 → (((p2 >>> (x5 &&& 31)) &&& 1) = 1 → (¬ fg 1 = 0) ∧ ((b2i (lnx (fg 1) x6 x5)) = 0 → ∀ y_13 : Int32, y_13 = x3 ||| 0 → ∀ y_14 : Int32, y_14 = x6 + 1 → (J34 y_13 x4 x5 y_14)) ∧ (¬ (b2i (lnx (fg 1) x6 x5)) = 0 → ∀ y_15 : Int32, y_15 = x3 ||| (1 <<< (x5 &&& 31)) → ∀ y_16 : Int32, y_16 = x6 + 1 → (J34 y_15 x4 x5 y_16))) ∧ (¬ ((p2 >>> (x5 &&& 31)) &&& 1) = 1 → ∀ y_9 : Int32, y_9 = x3 ||| 0 → ∀ y_10 : Int32, y_10 = x6 + 1 → (J34 y_9 x4 x5 y_10))) ∧ (¬ ((x3 >>> (x6 &&& 31)) &&& 1) = 1 → ∀ y_6 : Int32, y_6 = x3 ||| 0 → ∀ y_7 : Int32, y_7 = x6 + 1 → (J34 y_6 x4 x5 y_7)))
def ve_L_over (fg : Nat → Int32) (p1 : Int32) (p2 : Int32) (P : Int32 → Unit → Prop) (J7 : Int32 → Int32 → Prop) (J19 : Int32 → Int32 → Int32 → Prop) (J34 : Int32 → Int32 → Int32 → Int32 → Prop) : Prop := ∀ y_17 : Int32, y_17 = 1 <<< (p1 &&& 31) → (J7 y_17 0)
def vs_L_cellsOf_5 (fb : Nat → Int32) (fg : Nat → Int32) (p2 : Int32) (P : Int32 → Unit → Prop) (J5 : Int32 → Int32 → Prop) (x3 : Int32) (x4 : Int32) : Prop := (((fg 0) * (fg 1)) ≤ x4 → P x3 ()) ∧ (¬ ((fg 0) * (fg 1)) ≤ x4 → vp_in x4 12 ∧ ((fb x4.toNatClampNeg) = p2 → ∀ y_6 : Int32, y_6 = x3 ||| (1 <<< (x4 &&& 31)) → ∀ y_7 : Int32, y_7 = x4 + 1 → (J5 y_6 y_7)) ∧ (¬ (fb x4.toNatClampNeg) = p2 → ∀ y_4 : Int32, y_4 = x3 ||| 0 → ∀ y_5 : Int32, y_5 = x4 + 1 → (J5 y_4 y_5)))
def ve_L_cellsOf (fb : Nat → Int32) (fg : Nat → Int32) (p2 : Int32) (P : Int32 → Unit → Prop) (J5 : Int32 → Int32 → Prop) : Prop := (J5 0 0)
def vs_L_isSound_4 (fb : Nat → Int32) (fg : Nat → Int32) (P : Int32 → Unit → Prop) (J4 : Int32 → Int32 → Prop) (x2 : Int32) (x3 : Int32) : Prop := (((fg 0) * (fg 1)) ≤ x3 → (narrow .boolean (.int x2) = .int x2 ∧ P x2 ())) ∧ (¬ ((fg 0) * (fg 1)) ≤ x3 → (x2 = 0 → (narrow .boolean (.int x2) = .int x2 ∧ P x2 ())) ∧ (¬ x2 = 0 → vp_in x3 12 ∧ (∃ N : Nat, N ≤ 12 ∧ fg 0 * fg 1 = nI N) ∧ ∀ y_5 : Int32, y_5 = lco fb (fb x3.toNatClampNeg) (mN (fg 0) (fg 1)) → vp_in x3 12 ∧ ((fb x3.toNatClampNeg) = 0 → ∀ y_8 : Int32, y_8 = x3 + 1 → (J4 1 y_8)) ∧ (¬ (fb x3.toNatClampNeg) = 0 → (∃ r c N k : Nat, gok (fg 0) (fg 1) r c N ∧ k < N ∧ x3 = nI k ∧ sm N y_5) ∧ (sm 12 (gw (fg 0) (fg 1) y_5 (zbit x3))) ∧ vp_in x3 12 ∧ ((fb x3.toNatClampNeg) < (nI (cn (gw (fg 0) (fg 1) y_5 (zbit x3)) 12)) → ∀ y_13 : Int32, y_13 = x3 + 1 → (J4 0 y_13)) ∧ (¬ (fb x3.toNatClampNeg) < (nI (cn (gw (fg 0) (fg 1) y_5 (zbit x3)) 12)) → (∃ N : Nat, N ≤ 12 ∧ fg 0 * fg 1 = nI N) ∧ (∃ r c N k : Nat, gok (fg 0) (fg 1) r c N ∧ k < N ∧ x3 = nI k ∧ sm N (y_5 ||| (lco fb 0 (mN (fg 0) (fg 1))))) ∧ (sm 12 (gw (fg 0) (fg 1) (y_5 ||| (lco fb 0 (mN (fg 0) (fg 1)))) (zbit x3))) ∧ vp_in x3 12 ∧ ((nI (cn (gw (fg 0) (fg 1) (y_5 ||| (lco fb 0 (mN (fg 0) (fg 1)))) (zbit x3)) 12)) < (fb x3.toNatClampNeg) → ∀ y_19 : Int32, y_19 = x3 + 1 → (J4 0 y_19)) ∧ (¬ (nI (cn (gw (fg 0) (fg 1) (y_5 ||| (lco fb 0 (mN (fg 0) (fg 1)))) (zbit x3)) 12)) < (fb x3.toNatClampNeg) → ∀ y_20 : Int32, y_20 = x3 + 1 → (J4 1 y_20))))))
def ve_L_isSound (fb : Nat → Int32) (fg : Nat → Int32) (P : Int32 → Unit → Prop) (J4 : Int32 → Int32 → Prop) : Prop := (J4 1 0)
theorem pe_L_areNext (fg : Nat → Int32) (p1 : Int32) (p2 : Int32) (hpre : ¬ fg 1 = 0) : ve_L_areNext fg p1 p2 (fun (r : Int32) (u : Unit) => r = b2i (lnx (fg 1) p1 p2))  := by
  refine ⟨hpre, hpre, ?_⟩
  rintro y rfl
  refine ⟨hpre, hpre, ?_⟩
  rintro y rfl
  refine ⟨fun c => ?_, fun c => ?_⟩
  · show (1 : Int32) = b2i (lnx (fg 1) p1 p2)
    unfold lnx; rw [decide_eq_true c]; rfl
  · show (0 : Int32) = b2i (lnx (fg 1) p1 p2)
    unfold lnx; rw [decide_eq_false c]; rfl
theorem many_1a : ∀ a, a < 64 → ∀ b, b < 64 → nI (64 * a + b) = 0 ∨ cn (nI (64 * a + b)) 12 = cn (nI (64 * a + b) &&& (nI (64 * a + b) - 1)) 12 + 1 := by decide +kernel
theorem many_1 {x : Int32} (hx : sm 12 x) (h0 : ¬ x = 0) : sm 12 (x &&& (x - 1)) ∧ cn x 12 = cn (x &&& (x - 1)) 12 + 1 := by
  obtain ⟨n, h1, rfl⟩ := sm_nI (by decide) hx
  have h := many_1a (n / 64) (by omega) (n % 64) (Nat.mod_lt _ (by decide))
  rw [Nat.div_add_mod] at h
  exact ⟨sm_and hx _, h.resolve_left h0⟩
theorem cn_00 : ∀ k, cn 0 k = 0
  | 0 => rfl
  | k + 1 => by rw [cn, cn_00 k, bt_0]; rfl
def I_L_many_4 (p0 : Int32) : Int32 → Int32 → Prop := fun x1 x2 => sm 12 x2 ∧ ∃ a : Nat, x1 = nI a ∧ a + cn x2 12 = cn p0 12
def mu_L_many_4 (p0 : Int32) : Int32 → Int32 → Nat := fun x1 x2 => cn x2 12
theorem pl_L_many_4 (p0 : Int32) (hpre : sm 12 p0) : ∀ (x1 : Int32) (x2 : Int32), I_L_many_4 p0 x1 x2 → vs_L_many_4 p0 (fun (r : Int32) (u : Unit) => r = nI (cn p0 12)) (fun (x19 : Int32) (x29 : Int32) => I_L_many_4 p0 x19 x29 ∧ mu_L_many_4 p0 x19 x29 < mu_L_many_4 p0 x1 x2) x1 x2 := by
  rintro x1 x2 ⟨h2, a, rfl, e⟩
  refine ⟨fun c => ?_, fun c => ?_⟩
  · subst c
    rw [cn_00] at e
    rw [← e]; rfl
  · rintro y rfl y3 rfl
    obtain ⟨h3, e3⟩ := many_1 h2 c
    exact ⟨⟨h3, a + 1, nI_1 a, by omega⟩, by show cn _ 12 < cn x2 12; omega⟩
theorem pe_L_many (p0 : Int32) (hpre : sm 12 p0) : ve_L_many p0 (fun (r : Int32) (u : Unit) => r = nI (cn p0 12)) (I_L_many_4 p0) := ⟨hpre, 0, rfl, Nat.zero_add _⟩
def lsw (c N : Nat) (w x y : Int32) (k j : Nat) : Prop := ∀ a b, bt y a = true → bt w b = true → nbr c N a b → (b < k ∨ (b = k ∧ a < j)) → bt x b = true
def lin (rw co : Int32) (w p x : Int32) (N : Nat) : Prop := sm N x ∧ bt x p.toNatClampNeg = true ∧ ∀ i, bt x i = true → bt (gw rw co w (zbit p)) i = true
def I_L_over_7 (fg : Nat → Int32) (p1 : Int32) (p2 : Int32) : Int32 → Int32 → Prop := fun x3 x4 => lin (fg 0) (fg 1) p2 p1 x3 (mN (fg 0) (fg 1)) ∧ (x4 = 0 ∨ (∀ i, bt x4 i = true → bt x3 i = true) ∧ lsw (fg 1).toNatClampNeg (mN (fg 0) (fg 1)) p2 x3 x4 (mN (fg 0) (fg 1)) 0)
def mu_L_over_7 (fg : Nat → Int32) (p1 : Int32) (p2 : Int32) : Int32 → Int32 → Nat := fun x3 x4 => (2 * z12 x3 + (if x3 = x4 then 0 else 1)) * 1000
def I_L_over_19 (fg : Nat → Int32) (p1 : Int32) (p2 : Int32) : Int32 → Int32 → Int32 → Prop := fun x3 x4 x5 => lin (fg 0) (fg 1) p2 p1 x3 (mN (fg 0) (fg 1)) ∧ (∀ i, bt x4 i = true → bt x3 i = true) ∧ ∃ k, k ≤ mN (fg 0) (fg 1) ∧ x5 = nI k ∧ lsw (fg 1).toNatClampNeg (mN (fg 0) (fg 1)) p2 x3 x4 k 0
def mu_L_over_19 (fg : Nat → Int32) (p1 : Int32) (p2 : Int32) : Int32 → Int32 → Int32 → Nat := fun x3 x4 x5 => 2000 * z12 x4 + (12 - x5.toNatClampNeg) * 20 + 20
def I_L_over_34 (fg : Nat → Int32) (p1 : Int32) (p2 : Int32) : Int32 → Int32 → Int32 → Int32 → Prop := fun x3 x4 x5 x6 => lin (fg 0) (fg 1) p2 p1 x3 (mN (fg 0) (fg 1)) ∧ (∀ i, bt x4 i = true → bt x3 i = true) ∧ ∃ k j, k < mN (fg 0) (fg 1) ∧ x5 = nI k ∧ j ≤ mN (fg 0) (fg 1) ∧ x6 = nI j ∧ lsw (fg 1).toNatClampNeg (mN (fg 0) (fg 1)) p2 x3 x4 k j
def mu_L_over_34 (fg : Nat → Int32) (p1 : Int32) (p2 : Int32) : Int32 → Int32 → Int32 → Int32 → Nat := fun x3 x4 x5 x6 => 2000 * z12 x4 + (12 - x5.toNatClampNeg) * 20 + (13 - x6.toNatClampNeg)
theorem g1c {rw co : Int32} {r c N : Nat} (g : gok rw co r c N) : co.toNatClampNeg = c := by
  have hc := gc3 g
  obtain ⟨-, e, -⟩ := g
  rw [e, nI_clamp (by omega)]
theorem lsw_shut {c N : Nat} {w x : Int32} (h : lsw c N w x x N 0) : shut c N w x := fun i j h1 h2 h3 => h i j h1 h3 h2 (Or.inl h2.2.1)
theorem pl_L_over_7 (fg : Nat → Int32) (p1 : Int32) (p2 : Int32) (hpre : ∃ r c N k : Nat, gok (fg 0) (fg 1) r c N ∧ k < N ∧ p1 = nI k ∧ sm N p2) : ∀ (x3 : Int32) (x4 : Int32), I_L_over_7 fg p1 p2 x3 x4 → vs_L_over_7 fg p1 p2 (fun (r : Int32) (u : Unit) => r = gw (fg 0) (fg 1) p2 (zbit p1)) (fun (x39 : Int32) (x49 : Int32) => I_L_over_7 fg p1 p2 x39 x49 ∧ mu_L_over_7 fg p1 p2 x39 x49 < mu_L_over_7 fg p1 p2 x3 x4) (fun (x39 : Int32) (x49 : Int32) (x59 : Int32) => I_L_over_19 fg p1 p2 x39 x49 x59 ∧ mu_L_over_19 fg p1 p2 x39 x49 x59 < mu_L_over_7 fg p1 p2 x3 x4) (fun (x39 : Int32) (x49 : Int32) (x59 : Int32) (x69 : Int32) => I_L_over_34 fg p1 p2 x39 x49 x59 x69 ∧ mu_L_over_34 fg p1 p2 x39 x49 x59 x69 < mu_L_over_7 fg p1 p2 x3 x4) x3 x4 := by
  rintro x3 x4 ⟨⟨h1, h2, h3⟩, h4⟩
  obtain ⟨r, c, N, k, g, hk, rfl, hw⟩ := hpre
  rw [gmN g, g1c g] at h4
  rw [gmN g] at h1
  rw [nI_clamp (by have := (gN g).2; omega)] at h2
  unfold vs_L_over_7
  refine ⟨fun e => ?_, fun e => ⟨⟨⟨by rw [gmN g]; exact h1, by rw [nI_clamp (by have := (gN g).2; omega)]; exact h2, h3⟩, fun i h => h, 0, Nat.zero_le _, rfl, ?_⟩, ?_⟩⟩
  · subst e
    rcases h4 with h4 | ⟨-, h4⟩
    · rw [h4, bt_0] at h2; cases h2
    · show x3 = gw (fg 0) (fg 1) p2 (zbit (nI k))
      exact bt_eq (fun i => ⟨h3 i, gw_in g (one_sm g hk) (lsw_shut h4) (fun i hi => by rw [bt_one g hk] at hi; rw [hi]; exact h2) i⟩)
  · intro a b _ _ _ hab
    rcases hab with hab | ⟨-, hab⟩
    · exact absurd hab (Nat.not_lt_zero _)
    · exact absurd hab (Nat.not_lt_zero _)
  · show 2000 * z12 x3 + (12 - (0 : Int32).toNatClampNeg) * 20 + 20 < (2 * z12 x3 + (if x3 = x4 then 0 else 1)) * 1000
    rw [if_neg e]
    omega
theorem pl_L_over_19 (fg : Nat → Int32) (p1 : Int32) (p2 : Int32) (hpre : ∃ r c N k : Nat, gok (fg 0) (fg 1) r c N ∧ k < N ∧ p1 = nI k ∧ sm N p2) : ∀ (x3 : Int32) (x4 : Int32) (x5 : Int32), I_L_over_19 fg p1 p2 x3 x4 x5 → vs_L_over_19 fg p1 p2 (fun (r : Int32) (u : Unit) => r = gw (fg 0) (fg 1) p2 (zbit p1)) (fun (x39 : Int32) (x49 : Int32) => I_L_over_7 fg p1 p2 x39 x49 ∧ mu_L_over_7 fg p1 p2 x39 x49 < mu_L_over_19 fg p1 p2 x3 x4 x5) (fun (x39 : Int32) (x49 : Int32) (x59 : Int32) => I_L_over_19 fg p1 p2 x39 x49 x59 ∧ mu_L_over_19 fg p1 p2 x39 x49 x59 < mu_L_over_19 fg p1 p2 x3 x4 x5) (fun (x39 : Int32) (x49 : Int32) (x59 : Int32) (x69 : Int32) => I_L_over_34 fg p1 p2 x39 x49 x59 x69 ∧ mu_L_over_34 fg p1 p2 x39 x49 x59 x69 < mu_L_over_19 fg p1 p2 x3 x4 x5) x3 x4 x5 := by
  rintro x3 x4 x5 ⟨⟨h1, h2, h3⟩, h4, k', hk', rfl, h5⟩
  obtain ⟨r, c, N, k, g, hk, rfl, hw⟩ := hpre
  have hN := (gN g).2
  have h45 : ∀ i, bt x4 i = true → bt x3 i = true := h4
  rw [gmN g] at hk'
  unfold vs_L_over_19
  rw [gmul g]
  refine ⟨fun e => ⟨⟨⟨h1, h2, h3⟩, Or.inr ⟨h4, ?_⟩⟩, ?_⟩, fun e => ⟨⟨⟨h1, h2, h3⟩, h4, k', 0, ?_, rfl, Nat.zero_le _, rfl, h5⟩, ?_⟩⟩
  · have e := k_le (by omega) (by omega) e
    obtain rfl : k' = N := by omega
    rw [gmN g]
    rw [gmN g] at h5
    exact h5
  · show (2 * z12 x3 + (if x3 = x4 then 0 else 1)) * 1000 < 2000 * z12 x4 + (12 - (nI k').toNatClampNeg) * 20 + 20
    by_cases e : x3 = x4
    · subst e; rw [if_pos rfl]; omega
    · rw [if_neg e]
      have e2 : x4 ||| x3 = x3 := bt_eq (fun i => by rw [bt_or, Bool.or_eq_true]; exact ⟨fun z => z.elim (h45 i) id, Or.inr⟩)
      rw [gmN g] at h1
      have := z12_lt hN h1 (x := x4) (fun z => e (by rw [← e2]; exact z))
      rw [e2] at this
      omega
  · have e := k_nle (by omega) (by omega) e
    rw [gmN g]; exact e
  · show 2000 * z12 x4 + (12 - (nI k').toNatClampNeg) * 20 + (13 - (0 : Int32).toNatClampNeg) < 2000 * z12 x4 + (12 - (nI k').toNatClampNeg) * 20 + 20
    have : (0 : Int32).toNatClampNeg = 0 := rfl
    omega
theorem pl_L_over_34 (fg : Nat → Int32) (p1 : Int32) (p2 : Int32) (hpre : ∃ r c N k : Nat, gok (fg 0) (fg 1) r c N ∧ k < N ∧ p1 = nI k ∧ sm N p2) : ∀ (x3 : Int32) (x4 : Int32) (x5 : Int32) (x6 : Int32), I_L_over_34 fg p1 p2 x3 x4 x5 x6 → vs_L_over_34 fg p1 p2 (fun (r : Int32) (u : Unit) => r = gw (fg 0) (fg 1) p2 (zbit p1)) (fun (x39 : Int32) (x49 : Int32) => I_L_over_7 fg p1 p2 x39 x49 ∧ mu_L_over_7 fg p1 p2 x39 x49 < mu_L_over_34 fg p1 p2 x3 x4 x5 x6) (fun (x39 : Int32) (x49 : Int32) (x59 : Int32) => I_L_over_19 fg p1 p2 x39 x49 x59 ∧ mu_L_over_19 fg p1 p2 x39 x49 x59 < mu_L_over_34 fg p1 p2 x3 x4 x5 x6) (fun (x39 : Int32) (x49 : Int32) (x59 : Int32) (x69 : Int32) => I_L_over_34 fg p1 p2 x39 x49 x59 x69 ∧ mu_L_over_34 fg p1 p2 x39 x49 x59 x69 < mu_L_over_34 fg p1 p2 x3 x4 x5 x6) x3 x4 x5 x6 := by
  rintro x3 x4 x5 x6 ⟨⟨h1, h2, h3⟩, h4, k', j, hk', rfl, hj, rfl, h5⟩
  obtain ⟨r, c, N, k, g, hk, rfl, hw⟩ := hpre
  have hN := (gN g).2
  rw [gmN g] at hk' hj
  rw [g1c g, gmN g] at h5
  unfold vs_L_over_34
  rw [gmul g]
  have hmv : ∀ y3 : Int32, j < N → lin (fg 0) (fg 1) p2 (nI k) y3 (mN (fg 0) (fg 1)) → (∀ i, bt x4 i = true → bt y3 i = true) → lsw c N p2 y3 x4 k' (j + 1) → (I_L_over_34 fg (nI k) p2 y3 x4 (nI k') (nI j + 1) ∧ mu_L_over_34 fg (nI k) p2 y3 x4 (nI k') (nI j + 1) < mu_L_over_34 fg (nI k) p2 x3 x4 (nI k') (nI j)) := by
    intro y3 hjN a1 a2 a3
    refine ⟨⟨a1, a2, k', j + 1, by rw [gmN g]; exact hk', rfl, by rw [gmN g]; omega, nI_1 j, by rw [g1c g, gmN g]; exact a3⟩, ?_⟩
    show 2000 * z12 x4 + (12 - (nI k').toNatClampNeg) * 20 + (13 - (nI j + 1).toNatClampNeg) < 2000 * z12 x4 + (12 - (nI k').toNatClampNeg) * 20 + (13 - (nI j).toNatClampNeg)
    rw [nI_1, nI_clamp (n := j + 1) (by omega), nI_clamp (n := j) (by omega)]
    omega
  have hsame : j < N → (bt x4 j = true → bt p2 k' = true → nbr c N j k' → bt x3 k' = true) → ∀ y3, y3 = x3 ||| 0 → ∀ y6, y6 = nI j + 1 → (I_L_over_34 fg (nI k) p2 y3 x4 (nI k') y6 ∧ mu_L_over_34 fg (nI k) p2 y3 x4 (nI k') y6 < mu_L_over_34 fg (nI k) p2 x3 x4 (nI k') (nI j)) := by
    intro hjN hh y3 e3 y6 e6
    rw [e6, e3, i_or0]
    refine hmv x3 hjN ⟨h1, h2, h3⟩ h4 (fun a b ha hb hn hab => ?_)
    rcases hab with hab | ⟨rfl, hab⟩
    · exact h5 a b ha hb hn (Or.inl hab)
    · rcases Nat.lt_succ_iff_lt_or_eq.mp hab with hab | rfl
      · exact h5 a b ha hb hn (Or.inr ⟨rfl, hab⟩)
      · exact hh ha hb hn
  refine ⟨fun e => ?_, fun e => ?_⟩
  · have e := k_le (by omega) (by omega) e
    obtain rfl : j = N := by omega
    rintro y rfl
    refine ⟨⟨⟨h1, h2, h3⟩, h4, k' + 1, by rw [gmN g]; omega, nI_1 k', ?_⟩, ?_⟩
    · rw [g1c g, gmN g]
      intro a b ha hb hn hab
      rcases hab with hab | ⟨-, hab⟩
      · rcases Nat.lt_succ_iff_lt_or_eq.mp hab with hab | rfl
        · exact h5 a b ha hb hn (Or.inl hab)
        · exact h5 a b ha hb hn (Or.inr ⟨rfl, hn.1⟩)
      · exact absurd hab (Nat.not_lt_zero _)
    · show 2000 * z12 x4 + (12 - (nI k' + 1).toNatClampNeg) * 20 + 20 < 2000 * z12 x4 + (12 - (nI k').toNatClampNeg) * 20 + (13 - (nI j).toNatClampNeg)
      rw [nI_1, nI_clamp (by omega), nI_clamp (n := k') (by omega), nI_clamp (n := j) (by omega)]
      omega
  · have e := k_nle (by omega) (by omega) e
    have h1N : sm N x3 := by rw [gmN g] at h1; exact h1
    rw [bit_k hN h1N (by omega), bit_k hN hw (by omega)]
    refine ⟨fun c1 => ⟨fun c2 => ⟨gco0 g, fun c3 => ?_, fun c3 => ?_⟩, fun c2 => ?_⟩, fun c1 => ?_⟩
    · refine hsame e (fun _ _ hn => ?_)
      rw [b2i_eq0] at c3
      rw [(lnx_nbr g e hk').mpr hn] at c3
      cases c3
    · rw [b2i_ne0] at c3
      have hn := (lnx_nbr g e hk').mp c3
      have hj3 : bt x3 j = true := by
        cases hb : bt x3 j with
        | true => rfl
        | false => rw [hb] at c1; exact absurd c1 (by decide)
      have hw3 : bt p2 k' = true := by
        cases hb : bt p2 k' with
        | true => rfl
        | false => rw [hb] at c2; exact absurd c2 (by decide)
      rintro y rfl y6 rfl
      have hsub : ∀ i, bt x3 i = true → bt (x3 ||| 1 <<< (nI k' &&& 31)) i = true := fun i hi => by rw [bt_or, hi]; rfl
      have hnew : ∀ i, bt (x3 ||| 1 <<< (nI k' &&& 31)) i = true → bt x3 i = true ∨ i = k' := fun i hi => by
        rw [bt_or, Bool.or_eq_true] at hi
        exact hi.imp id (fun z => (bt_one g hk').mp z)
      refine hmv _ e ⟨?_, hsub _ h2, ?_⟩ (fun i hi => hsub i (h4 i hi)) ?_
      · rw [gmN g]; exact sm_or h1N (one_sm g hk')
      · intro i hi
        rcases hnew i hi with hi | rfl
        · exact h3 i hi
        · exact gw_shut g (one_sm g hk) j i (h3 j hj3) hn hw3
      · intro a b ha hb hn2 hab
        rcases hab with hab | ⟨rfl, hab⟩
        · exact hsub b (h5 a b ha hb hn2 (Or.inl hab))
        · rw [bt_or, Bool.or_eq_true]
          exact Or.inr ((bt_one g hk').mpr rfl)
    · refine hsame e (fun _ hb _ => ?_)
      rw [hb] at c2; exact absurd rfl c2
    · refine hsame e (fun ha _ _ => ?_)
      rw [h4 j ha] at c1; exact absurd rfl c1
theorem pe_L_over (fg : Nat → Int32) (p1 : Int32) (p2 : Int32) (hpre : ∃ r c N k : Nat, gok (fg 0) (fg 1) r c N ∧ k < N ∧ p1 = nI k ∧ sm N p2) : ve_L_over fg p1 p2 (fun (r : Int32) (u : Unit) => r = gw (fg 0) (fg 1) p2 (zbit p1)) (I_L_over_7 fg p1 p2) (I_L_over_19 fg p1 p2) (I_L_over_34 fg p1 p2) := by
  rintro y rfl
  obtain ⟨r, c, N, k, g, hk, rfl, hw⟩ := hpre
  refine ⟨⟨?_, ?_, fun i hi => gw_sub hi⟩, Or.inl rfl⟩
  · rw [gmN g]; exact one_sm g hk
  · rw [nI_clamp (by have := (gN g).2; omega)]
    exact (bt_one g hk).mpr rfl
def I_L_cellsOf_5 (fb : Nat → Int32) (fg : Nat → Int32) (p2 : Int32) : Int32 → Int32 → Prop := fun x3 x4 => ∃ k, k ≤ mN (fg 0) (fg 1) ∧ x4 = nI k ∧ x3 = lco fb p2 k
def mu_L_cellsOf_5 (fb : Nat → Int32) (fg : Nat → Int32) (p2 : Int32) : Int32 → Int32 → Nat := fun x3 x4 => 12 - x4.toNatClampNeg
theorem pl_L_cellsOf_5 (fb : Nat → Int32) (fg : Nat → Int32) (p2 : Int32) (hpre : ∃ N : Nat, N ≤ 12 ∧ fg 0 * fg 1 = nI N) : ∀ (x3 : Int32) (x4 : Int32), I_L_cellsOf_5 fb fg p2 x3 x4 → vs_L_cellsOf_5 fb fg p2 (fun (r : Int32) (u : Unit) => r = lco fb p2 (mN (fg 0) (fg 1))) (fun (x39 : Int32) (x49 : Int32) => I_L_cellsOf_5 fb fg p2 x39 x49 ∧ mu_L_cellsOf_5 fb fg p2 x39 x49 < mu_L_cellsOf_5 fb fg p2 x3 x4) x3 x4 := by
  rintro x3 x4 ⟨k, hk, rfl, rfl⟩
  obtain ⟨N, hN, e⟩ := hpre
  unfold vs_L_cellsOf_5
  rw [e]
  have em := mN_of hN e
  rw [em] at hk
  refine ⟨fun c => ?_, fun c => ⟨?_, fun c2 => ?_, fun c2 => ?_⟩⟩
  · have c := k_le (by omega) (by omega) c
    obtain rfl : k = N := by omega
    show lco fb p2 k = lco fb p2 (mN (fg 0) (fg 1))
    rw [em]
  · have c := k_nle (by omega) (by omega) c
    exact vp_in_nI (by omega) (by decide)
  all_goals
    have c := k_nle (by omega) (by omega) c
    rw [nI_clamp (by omega)] at c2
    rintro y rfl y2 rfl
    refine ⟨⟨k + 1, by rw [em]; omega, nI_1 k, ?_⟩, hmu 12 (by omega) (by decide)⟩
  · rw [lco, if_pos c2]; rfl
  · rw [lco, if_neg c2, i_or0]
theorem pe_L_cellsOf (fb : Nat → Int32) (fg : Nat → Int32) (p2 : Int32) (hpre : ∃ N : Nat, N ≤ 12 ∧ fg 0 * fg 1 = nI N) : ve_L_cellsOf fb fg p2 (fun (r : Int32) (u : Unit) => r = lco fb p2 (mN (fg 0) (fg 1))) (I_L_cellsOf_5 fb fg p2) := ⟨0, Nat.zero_le _, rfl, rfl⟩
def I_L_isSound_4 (fb : Nat → Int32) (fg : Nat → Int32) : Int32 → Int32 → Prop := fun x2 x3 => ∃ (k : Nat) (b : Bool), k ≤ mN (fg 0) (fg 1) ∧ x3 = nI k ∧ x2 = b2i b ∧ lso fb fg = (b && msF (fg 0) (fg 1) fb (mlk (fg 0) (fg 1) fb (fun _ => 0)) (mN (fg 0) (fg 1)) (mN (fg 0) (fg 1) - k))
def mu_L_isSound_4 (fb : Nat → Int32) (fg : Nat → Int32) : Int32 → Int32 → Nat := fun x2 x3 => 12 - x3.toNatClampNeg
theorem mcond_k {rw co : Int32} {r c N : Nat} (g : gok rw co r c N) {bd : Nat → Int32} {k v : Nat} (hk : k < N) (hv : v < 10) (e : bd k = nI v) (hf : Nat → Int32) :
    mcond rw co bd (mlk rw co bd hf) (nI k) = (decide (v = 0) || (decide (cn (gw rw co (fob N bd v) (zbit (nI k))) 12 ≤ v) && decide (v ≤ cn (gw rw co (fob N bd v ||| fob N bd 0) (zbit (nI k))) 12))) := by
  have hN := (gN g).2
  have h := FB_fob hN bd
  unfold mcond
  rw [mfo_gw g h hk hv e, mro_gw g h hk hv e, nI_clamp (by omega), e, mcn_cn hN (gw_sm g (one_sm g hk)) 12 (by decide)]
  have e1 : decide (nI v = 0) = decide (v = 0) := by rw [← nI_0]; exact decide_eq_decide.mpr (nI_eq (by omega) (by decide))
  have h1 := cn_12 (gw rw co (fob N bd v) (zbit (nI k)))
  have h2 := cn_12 (gw rw co (fob N bd v ||| fob N bd 0) (zbit (nI k)))
  have e2 : decide (nI (cn (gw rw co (fob N bd v) (zbit (nI k))) 12) ≤ nI v) = decide (cn (gw rw co (fob N bd v) (zbit (nI k))) 12 ≤ v) := decide_eq_decide.mpr (nI_leI h1 (by omega))
  have e3 : decide (nI v ≤ nI (rsz rw co (fob N bd) v k)) = decide (v ≤ cn (gw rw co (fob N bd v ||| fob N bd 0) (zbit (nI k))) 12) := decide_eq_decide.mpr (nI_leI (by omega) h2)
  rw [e1, e2, e3]
theorem pl_L_isSound_4 (fb : Nat → Int32) (fg : Nat → Int32) (hpre : PG fb fg) : ∀ (x2 : Int32) (x3 : Int32), I_L_isSound_4 fb fg x2 x3 → vs_L_isSound_4 fb fg (fun (r : Int32) (u : Unit) => r = b2i (lso fb fg)) (fun (x29 : Int32) (x39 : Int32) => I_L_isSound_4 fb fg x29 x39 ∧ mu_L_isSound_4 fb fg x29 x39 < mu_L_isSound_4 fb fg x2 x3) x2 x3 := by
  rintro x2 x3 ⟨k, b, hk, rfl, rfl, e⟩
  obtain ⟨r, c, N, g, hb⟩ := hpre
  have hN := (gN g).2
  have em := gmN g
  unfold vs_L_isSound_4
  rw [gmul g]
  rw [em] at hk e
  refine ⟨fun c => ⟨b2i_narrow b, ?_⟩, fun c => ⟨fun c2 => ⟨b2i_narrow b, ?_⟩, fun c2 => ?_⟩⟩
  · have c := k_le (by omega) (by omega) c
    obtain rfl : k = N := by omega
    show b2i b = b2i (lso fb fg)
    rw [e, Nat.sub_self, msF, Bool.and_true]
  · rw [b2i_eq0] at c2
    show b2i b = b2i (lso fb fg)
    rw [e, c2, Bool.false_and]
  · have hkN := k_nle (by omega) (by omega) c
    rw [b2i_ne0] at c2
    subst c2
    obtain ⟨v, hv, ev⟩ := hb k (by omega)
    have hvp : vp_in (nI k) 12 := vp_in_nI (by omega) (by decide)
    have hms : msF (fg 0) (fg 1) fb (mlk (fg 0) (fg 1) fb (fun _ => 0)) N (N - k) = (mcond (fg 0) (fg 1) fb (mlk (fg 0) (fg 1) fb (fun _ => 0)) (nI k) && msF (fg 0) (fg 1) fb (mlk (fg 0) (fg 1) fb (fun _ => 0)) N (N - (k + 1))) := by
      obtain ⟨j, hj⟩ : ∃ j, N - k = j + 1 := ⟨N - k - 1, by omega⟩
      rw [hj, msF, show N - (j + 1) = k by omega, show N - (k + 1) = j by omega]
    rw [hms, mcond_k g hkN hv ev] at e
    rw [nI_clamp (by omega), ev]
    have hfin : ∀ (b' : Bool), mcond (fg 0) (fg 1) fb (mlk (fg 0) (fg 1) fb (fun _ => 0)) (nI k) = b' → ∀ y, y = nI k + 1 → (I_L_isSound_4 fb fg (b2i b') y ∧ mu_L_isSound_4 fb fg (b2i b') y < mu_L_isSound_4 fb fg (b2i true) (nI k)) := by
      intro b' hb' y ey
      rw [ey]
      rw [mcond_k g hkN hv ev] at hb'
      refine ⟨⟨k + 1, b', by rw [em]; omega, nI_1 k, rfl, ?_⟩, hmu 12 (by omega) (by decide)⟩
      rw [em, e, hb', Bool.true_and]
    rw [mcond_k g hkN hv ev] at hfin
    have eL : lco fb (nI v) N = fob N fb v := lco_fob
    have eL0 : lco fb 0 N = fob N fb 0 := by rw [← nI_0]; exact lco_fob
    refine ⟨hvp, ⟨N, hN, rfl⟩, ?_⟩
    rintro y5 rfl
    rw [em, eL, eL0]
    have hs1 : sm N (fob N fb v) := FB_sm (FB_fob hN fb) hv
    have hs0 : sm N (fob N fb 0) := FB_sm (FB_fob hN fb) (by decide)
    have g1 := gw_sm g (w := fob N fb v) (one_sm g hkN)
    have g2 := gw_sm g (w := fob N fb v ||| fob N fb 0) (one_sm g hkN)
    refine ⟨hvp, fun c0 => ?_, fun c0 => ⟨⟨r, _, N, k, g, hkN, rfl, hs1⟩, sm_12 hN g1, hvp, fun c1 => ?_, fun c1 => ⟨⟨N, hN, rfl⟩, ⟨r, _, N, k, g, hkN, rfl, sm_or hs1 hs0⟩, sm_12 hN g2, hvp, fun c2 => ?_, fun c2 => ?_⟩⟩⟩
    · have hv0 : v = 0 := nI_inj (by omega) (by decide) (c0.trans nI_0.symm)
      exact hfin true (by rw [decide_eq_true hv0]; rfl)
    · have hv0 : ¬ v = 0 := fun z => c0 (by rw [z]; rfl)
      rw [nI_ltI (by omega) (cn_12 _)] at c1
      exact hfin false (by rw [decide_eq_false hv0, decide_eq_false (by omega)]; rfl)
    · have hv0 : ¬ v = 0 := fun z => c0 (by rw [z]; rfl)
      rw [nI_ltI (cn_12 _) (by omega)] at c2
      exact hfin false (by rw [decide_eq_false hv0, decide_eq_false (p := v ≤ _) (by omega), Bool.and_false]; rfl)
    · rw [nI_ltI (by omega) (cn_12 _)] at c1
      rw [nI_ltI (cn_12 _) (by omega)] at c2
      exact hfin true (by rw [decide_eq_true (p := cn _ 12 ≤ v) (by omega), decide_eq_true (p := v ≤ _) (by omega), Bool.and_self, Bool.or_true])
theorem pe_L_isSound (fb : Nat → Int32) (fg : Nat → Int32) (hpre : PG fb fg) : ve_L_isSound fb fg (fun (r : Int32) (u : Unit) => r = b2i (lso fb fg)) (I_L_isSound_4 fb fg) := by
  refine ⟨0, true, Nat.zero_le _, rfl, rfl, ?_⟩
  rw [Bool.true_and, Nat.sub_zero]; rfl
