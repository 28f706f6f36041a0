/-! cells beside each other, and what grows from a mask -/
def nbr (c N i j : Nat) : Prop := i < N ∧ j < N ∧ (j = i + c ∨ i = j + c ∨ (j = i + 1 ∧ ¬ i % c = c - 1) ∨ (i = j + 1 ∧ ¬ i % c = 0))
theorem nbr_symm {c N i j : Nat} (hc : c = 2 ∨ c = 3 ∨ c = 4) (h : nbr c N i j) : nbr c N j i := by
  obtain ⟨h1, h2, h3⟩ := h
  refine ⟨h2, h1, ?_⟩
  rcases hc with rfl | rfl | rfl <;> omega
theorem gc3 {rw co : Int32} {r c N : Nat} (g : gok rw co r c N) : c = 2 ∨ c = 3 ∨ c = 4 := by
  obtain ⟨_, _, _, _, h1, h2, _⟩ := g; omega
theorem mbs_iff {rw co : Int32} {r c N : Nat} (g : gok rw co r c N) {x : Int32} (hx : sm N x) {j : Nat} : bt (mbs rw co x) j = true ↔ ∃ i, bt x i = true ∧ nbr c N i j := by
  have hN := (gN g).2
  by_cases hj : j < 32
  · rw [bt_mbs g hx hj]
    unfold beB
    simp only [Bool.and_eq_true, Bool.or_eq_true, decide_eq_true_eq, Bool.not_eq_true', decide_eq_false_iff_not]
    constructor
    · rintro ⟨h1, ((⟨h2, h3⟩ | h3) | ⟨h2, h3, h4⟩) | ⟨h3, h4⟩⟩
      · exact ⟨j - c, h3, sm_lt hx h3, h1, Or.inl (by omega)⟩
      · exact ⟨j + c, h3, sm_lt hx h3, h1, Or.inr (Or.inl rfl)⟩
      · exact ⟨j - 1, h3, sm_lt hx h3, h1, Or.inr (Or.inr (Or.inl ⟨by omega, h4⟩))⟩
      · exact ⟨j + 1, h3, sm_lt hx h3, h1, Or.inr (Or.inr (Or.inr ⟨rfl, h4⟩))⟩
    · rintro ⟨i, hb, h1, h2, h3⟩
      refine ⟨h2, ?_⟩
      rcases h3 with rfl | rfl | ⟨rfl, h4⟩ | ⟨rfl, h4⟩
      · exact Or.inl (Or.inl (Or.inl ⟨by omega, by rw [Nat.add_sub_cancel]; exact hb⟩))
      · exact Or.inl (Or.inl (Or.inr hb))
      · exact Or.inl (Or.inr ⟨by omega, by rw [Nat.add_sub_cancel]; exact hb, by rw [Nat.add_sub_cancel]; exact h4⟩)
      · exact Or.inr ⟨hb, h4⟩
  · rw [bt_hi _ (by omega)]
    constructor
    · intro h; exact absurd h (by decide)
    · rintro ⟨i, _, h1, h2, _⟩; omega
theorem sm_mbs {rw co : Int32} {r c N : Nat} (g : gok rw co r c N) {x : Int32} (hx : sm N x) : sm N (mbs rw co x) := by
  intro j h1 h2
  cases h : bt (mbs rw co x) j
  · rfl
  · obtain ⟨i, _, _, h3, _⟩ := (mbs_iff g hx).mp h; omega
/-- the measure that falls while a mask grows -/
def z12 (x : Int32) : Nat := zc x.toBitVec 12
theorem z12_lt {N : Nat} (hN : N ≤ 12) {x t : Int32} (ht : sm N t) (h : ¬ x ||| t = x) : z12 (x ||| t) < z12 x := by
  unfold z12
  rw [Int32.toBitVec_or]
  have : ∃ i, i < 32 ∧ bt x i = false ∧ bt t i = true := by
    apply Classical.byContradiction
    intro hn
    apply h
    apply bt_ext
    intro i hi
    rw [bt_or]
    cases hx : bt x i
    · cases ht : bt t i
      · rfl
      · exact absurd ⟨i, hi, hx, ht⟩ hn
    · rfl
  obtain ⟨i, _, h1, h2⟩ := this
  exact zc_lt _ _ i h1 h2 12 (by have := sm_lt ht h2; omega)
theorem z12_le (x : Int32) : z12 x ≤ 12 := zc_le _ _
theorem mgr_fix {rw co w x : Int32} (h : x ||| (mbs rw co x &&& w) = x) : ∀ n, mgr rw co w n x = x
  | 0 => rfl
  | n + 1 => by rw [mgr, if_pos h]
theorem mgr_st {rw co w : Int32} {r c N : Nat} (g : gok rw co r c N) : ∀ (n m : Nat) (x : Int32), sm N x → z12 x ≤ n → z12 x ≤ m → mgr rw co w n x = mgr rw co w m x
  | 0, m, x, hx, h1, h2 => by
    by_cases h : x ||| (mbs rw co x &&& w) = x
    · rw [mgr_fix h, mgr_fix h]
    · have := z12_lt (gN g).2 (sm_and (sm_mbs g hx) w) h; omega
  | n + 1, 0, x, hx, h1, h2 => by
    by_cases h : x ||| (mbs rw co x &&& w) = x
    · rw [mgr_fix h, mgr_fix h]
    · have := z12_lt (gN g).2 (sm_and (sm_mbs g hx) w) h; omega
  | n + 1, m + 1, x, hx, h1, h2 => by
    by_cases h : x ||| (mbs rw co x &&& w) = x
    · rw [mgr_fix h, mgr_fix h]
    · have := z12_lt (gN g).2 (sm_and (sm_mbs g hx) w) h
      rw [mgr, mgr, if_neg h, if_neg h]
      exact mgr_st g n m _ (sm_or hx (sm_and (sm_mbs g hx) w)) (by omega) (by omega)
/-- what grows from x within w -/
def gw (rw co w x : Int32) : Int32 := mgr rw co w 12 x
theorem mgr_33 {rw co w x : Int32} {r c N : Nat} (g : gok rw co r c N) (hx : sm N x) : mgr rw co w 33 x = gw rw co w x := mgr_st g 33 12 x hx (Nat.le_trans (z12_le x) (by decide)) (z12_le x)
theorem zsp_mgr {rw co w : Int32} {r c N : Nat} (g : gok rw co r c N) : ∀ (n : Nat) (x : Int32), sm N x → zsp co (zac rw co) (zfc co r) (zlc co (zfc co r)) w n x = mgr rw co w n x
  | 0, x, hx => rfl
  | n + 1, x, hx => by
    rw [zsp, mgr, zbs_mbs g hx]
    split
    · rfl
    · exact zsp_mgr g n _ (sm_or hx (sm_and (sm_mbs g hx) w))
theorem zsp_gw {rw co w x : Int32} {r c N : Nat} (g : gok rw co r c N) (hx : sm N x) : zsp co (zac rw co) (zfc co r) (zlc co (zfc co r)) w 12 x = gw rw co w x := zsp_mgr g 12 x hx
theorem mgr_sub {rw co w : Int32} {i : Nat} : ∀ (n : Nat) (x : Int32), bt x i = true → bt (mgr rw co w n x) i = true
  | 0, x, h => h
  | n + 1, x, h => by
    rw [mgr]
    split
    · exact h
    · exact mgr_sub n _ (by rw [bt_or, h]; rfl)
theorem sm_mgr {rw co w : Int32} {r c N : Nat} (g : gok rw co r c N) : ∀ (n : Nat) (x : Int32), sm N x → sm N (mgr rw co w n x)
  | 0, x, h => h
  | n + 1, x, h => by
    rw [mgr]
    split
    · exact h
    · exact sm_mgr g n _ (sm_or h (sm_and (sm_mbs g h) w))
theorem mgr_end {rw co w : Int32} {r c N : Nat} (g : gok rw co r c N) : ∀ (n : Nat) (x : Int32), sm N x → z12 x ≤ n → mgr rw co w n x ||| (mbs rw co (mgr rw co w n x) &&& w) = mgr rw co w n x
  | 0, x, hx, h => by
    by_cases h1 : x ||| (mbs rw co x &&& w) = x
    · exact h1
    · have := z12_lt (gN g).2 (sm_and (sm_mbs g hx) w) h1; omega
  | n + 1, x, hx, h => by
    rw [mgr]
    split
    · next h1 => exact h1
    · next h1 =>
      have := z12_lt (gN g).2 (sm_and (sm_mbs g hx) w) h1
      exact mgr_end g n _ (sm_or hx (sm_and (sm_mbs g hx) w)) (by omega)
/-- nothing of w lies beside y that is not in y -/
def shut (c N : Nat) (w y : Int32) : Prop := ∀ i j, bt y i = true → nbr c N i j → bt w j = true → bt y j = true
theorem mgr_in {rw co w : Int32} {r c N : Nat} (g : gok rw co r c N) {y : Int32} (hy : shut c N w y) : ∀ (n : Nat) (x : Int32), sm N x → (∀ i, bt x i = true → bt y i = true) → ∀ i, bt (mgr rw co w n x) i = true → bt y i = true
  | 0, x, hx, h => h
  | n + 1, x, hx, h => by
    rw [mgr]
    split
    · exact h
    · refine mgr_in g hy n _ (sm_or hx (sm_and (sm_mbs g hx) w)) ?_
      intro i hi
      rw [bt_or, bt_and, Bool.or_eq_true, Bool.and_eq_true] at hi
      rcases hi with hi | ⟨h1, h2⟩
      · exact h i hi
      · obtain ⟨k, h3, h4⟩ := (mbs_iff g hx).mp h1
        exact hy k i (h k h3) h4 h2
theorem gw_sm {rw co : Int32} {r c N : Nat} (g : gok rw co r c N) {w x : Int32} (hx : sm N x) : sm N (gw rw co w x) := sm_mgr g 12 x hx
theorem gw_shut {rw co : Int32} {r c N : Nat} (g : gok rw co r c N) {w x : Int32} (hx : sm N x) : shut c N w (gw rw co w x) := by
  intro i j h1 h2 h3
  have e := mgr_end g (w := w) 12 x hx (z12_le x)
  have h4 : bt (mbs rw co (gw rw co w x)) j = true := (mbs_iff g (gw_sm g hx)).mpr ⟨i, h1, h2⟩
  show bt (mgr rw co w 12 x) j = true
  rw [← e, bt_or, bt_and]
  have h4 : bt (mbs rw co (mgr rw co w 12 x)) j = true := h4
  rw [h4, h3]
  simp
theorem gw_in {rw co : Int32} {r c N : Nat} (g : gok rw co r c N) {w x y : Int32} (hx : sm N x) (hy : shut c N w y) (h : ∀ i, bt x i = true → bt y i = true) : ∀ i, bt (gw rw co w x) i = true → bt y i = true := mgr_in g hy 12 x hx h
theorem gw_sub {rw co w x : Int32} {i : Nat} (h : bt x i = true) : bt (gw rw co w x) i = true := mgr_sub 12 x h
theorem gw_w {rw co : Int32} {r c N : Nat} (g : gok rw co r c N) {w x : Int32} (hx : sm N x) (h : ∀ i, bt x i = true → bt w i = true) : ∀ i, bt (gw rw co w x) i = true → bt w i = true :=
  gw_in g hx (fun _ _ _ _ h => h) h
theorem bt_one {rw co : Int32} {r c N : Nat} (g : gok rw co r c N) {k i : Nat} (hk : k < N) : bt (zbit (nI k)) i = true ↔ i = k := by
  have hN := (gN g).2
  by_cases hi : i < 32
  · rw [bt_zbit _ hi, cb_nI (by omega), decide_eq_true_eq]
  · rw [bt_hi _ (by omega)]
    constructor
    · intro h; exact absurd h (by decide)
    · intro h; omega
theorem one_sm {rw co : Int32} {r c N : Nat} (g : gok rw co r c N) {k : Nat} (hk : k < N) : sm N (zbit (nI k)) := sm_zbit hk (gN g).2
theorem gw_self {rw co : Int32} {r c N : Nat} (g : gok rw co r c N) {w : Int32} {k : Nat} (hk : k < N) : bt (gw rw co w (zbit (nI k))) k = true := gw_sub ((bt_one g hk).mpr rfl)
/-- a field is the same from each of its cells -/
theorem gw_same {rw co : Int32} {r c N : Nat} (g : gok rw co r c N) {w : Int32} {k j : Nat} (hk : k < N) (hw : bt w k = true) (h : bt (gw rw co w (zbit (nI k))) j = true) : gw rw co w (zbit (nI j)) = gw rw co w (zbit (nI k)) := by
  have hN := (gN g).2
  have sk := one_sm g hk
  have hj : j < N := sm_lt (gw_sm g sk) h
  have sj := one_sm g hj
  have hin : ∀ i, bt (gw rw co w (zbit (nI k))) i = true → bt w i = true := gw_w g sk (fun i hi => by rw [(bt_one g hk).mp hi]; exact hw)
  have h1 : ∀ i, bt (gw rw co w (zbit (nI j))) i = true → bt (gw rw co w (zbit (nI k))) i = true :=
    gw_in g sj (gw_shut g sk) (fun i hi => by rw [(bt_one g hj).mp hi]; exact h)
  have h2 : bt (gw rw co w (zbit (nI j))) k = true := by
    apply Classical.byContradiction
    intro hn
    have hn : bt (gw rw co w (zbit (nI j))) k = false := by simpa using hn
    have hy : shut c N w (gw rw co w (zbit (nI k)) &&& (gw rw co w (zbit (nI j)) ^^^ (-1))) := by
      intro a b h3 h4 h5
      rw [bt_and, Bool.and_eq_true] at h3 ⊢
      have ha : a < N := h4.1
      have hb : b < N := h4.2.1
      rw [bt_not (by omega)] at h3
      rw [bt_not (by omega)]
      refine ⟨gw_shut g sk a b h3.1 h4 h5, ?_⟩
      cases hb2 : bt (gw rw co w (zbit (nI j))) b
      · rfl
      · have := gw_shut g sj (w := w) b a hb2 (nbr_symm (gc3 g) h4) (hin a h3.1)
        rw [this] at h3; exact absurd h3.2 (by decide)
    have := gw_in g sk hy (fun i hi => by
      rw [(bt_one g hk).mp hi, bt_and, gw_self g hk, bt_not (by omega), hn]; rfl) j h
    rw [bt_and, bt_not (by omega), gw_self g hj, Bool.and_eq_true] at this
    exact absurd this.2 (by decide)
  apply bt_ext
  intro i _
  have h3 : bt (gw rw co w (zbit (nI k))) i = true → bt (gw rw co w (zbit (nI j))) i = true :=
    gw_in g sk (gw_shut g sj) (fun i hi => by rw [(bt_one g hk).mp hi]; exact h2) i
  cases ha : bt (gw rw co w (zbit (nI k))) i
  · cases hb : bt (gw rw co w (zbit (nI j))) i
    · rfl
    · rw [h1 i hb] at ha; exact absurd ha (by decide)
  · exact h3 ha
