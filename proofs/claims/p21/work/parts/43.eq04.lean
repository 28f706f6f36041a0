/-! the class's ten masks are the reference's board -/
def FB (N : Nat) (f bd : Nat → Int32) : Prop := ∀ j, j < 10 → ∀ i, i < 32 → bt (f j) i = decide (i < N ∧ bd i = nI j)
def bv (N : Nat) (bd : Nat → Int32) : Prop := ∀ k, k < N → ∃ v, v < 10 ∧ bd k = nI v
theorem nI_inj {a b : Nat} (ha : a < 2 ^ 31) (hb : b < 2 ^ 31) (h : nI a = nI b) : a = b := (nI_eq ha hb).mp h
theorem FB_iff {N : Nat} {f bd : Nat → Int32} (h : FB N f bd) (hN : N ≤ 12) {j : Nat} (hj : j < 10) {i : Nat} : bt (f j) i = true ↔ i < N ∧ bd i = nI j := by
  by_cases hi : i < 32
  · rw [h j hj i hi, decide_eq_true_eq]
  · rw [bt_hi _ (by omega)]
    constructor
    · intro z; exact absurd z (by decide)
    · intro z; omega
theorem FB_sm {N : Nat} {f bd : Nat → Int32} (h : FB N f bd) {j : Nat} (hj : j < 10) : sm N (f j) := fun i h1 h2 => by rw [h j hj i h2, decide_eq_false (by omega)]
theorem FB_has {N : Nat} {f bd : Nat → Int32} (h : FB N f bd) (hN : N ≤ 12) {j : Nat} (hj : j < 10) {k : Nat} (hk : k < N) : zhas (f j) (nI k) = decide (bd k = nI j) := by
  rw [zhas_bt, cb_nI (by omega), h j hj k (by omega)]
  simp [hk]
theorem zni_FB {N : Nat} {f bd : Nat → Int32} (h : FB N f bd) (hN : N ≤ 12) {k v : Nat} (hk : k < N) (hv : v < 10) (e : bd k = nI v) : zni f (nI k) 9 = nI v := by
  have : ∀ n, n ≤ 9 → zni f (nI k) n = if 10 - n ≤ v then nI v else 0 := by
    intro n
    induction n with
    | zero => intro _; rw [if_neg (by omega)]; rfl
    | succ n ih =>
      intro hn
      rw [zni, FB_has h hN (by omega) hk, ih (by omega), e]
      by_cases e2 : v = 9 - n
      · subst e2
        rw [if_pos (by simp), if_pos (by omega)]
      · rw [if_neg (by simp only [decide_eq_true_eq]; intro z; exact e2 (nI_inj (by omega) (by omega) z))]
        by_cases h3 : 10 - n ≤ v
        · rw [if_pos h3, if_pos (by omega)]
        · rw [if_neg h3, if_neg (by omega)]
  rw [this 9 (by decide)]
  by_cases h1 : 1 ≤ v
  · rw [if_pos h1]
  · rw [if_neg h1, show v = 0 by omega, nI_0]
theorem zwr_FB {N : Nat} {f bd : Nat → Int32} (h : FB N f bd) (hN : N ≤ 12) {k v : Nat} (hk : k < N) (hv : v < 10) : FB N (zwr f (nI k) (nI v)) (upd bd k (nI v)) := by
  intro j hj i hi
  rw [bt_zwr f (nI k) (nI v) hj hi, cb_nI (by omega)]
  unfold upd
  by_cases e : i = k
  · subst e
    rw [if_pos rfl, if_pos rfl]
    by_cases e2 : j = v
    · subst e2; simp [hk]
    · rw [decide_eq_false (fun z => e2 (nI_inj (by omega) (by omega) z)), decide_eq_false (fun z => e2 (nI_inj (by omega) (by omega) z.2.symm))]
  · rw [if_neg e, if_neg e, h j hj i hi]
theorem bv_upd {N : Nat} {bd : Nat → Int32} (h : bv N bd) {k v : Nat} (hv : v < 10) : bv N (upd bd k (nI v)) := by
  intro i hi
  unfold upd
  split
  · exact ⟨v, hv, rfl⟩
  · exact h i hi
theorem zcw_nI {f : Nat → Int32} {v : Nat} (hv : v < 10) : zcw f (nI v) = f v := by
  unfold zcw
  rw [if_pos ⟨nI_pos (by omega), (nI_ltI (b := 10) (by omega) (by decide)).mpr hv⟩, nI_clamp (by omega)]
theorem bt_mhv {bd : Nat → Int32} {j : Nat} : ∀ n, n ≤ 12 → ∀ i, i < 32 → bt (mhv bd j n) i = decide (i < n ∧ bd i = nI j)
  | 0, _, i, _ => by rw [mhv, bt_0, decide_eq_false (by omega)]
  | n + 1, hn, i, hi => by
    have ih := bt_mhv (bd := bd) (j := j) n (by omega) i hi
    rw [mhv]
    by_cases e : bd n = nI j
    · rw [if_pos e, bt_or, ih, bt_zbit _ hi, cb_nI (by omega)]
      by_cases e2 : i = n
      · subst e2; simp [e]
      · by_cases e3 : i < n
        · have : i < n + 1 := by omega
          simp [e2, e3, this]
        · have : ¬ i < n + 1 := by omega
          simp [e2, e3, this]
    · rw [if_neg e, ih]
      by_cases e2 : i = n
      · subst e2; simp [e]
      · by_cases e3 : i < n
        · have : i < n + 1 := by omega
          simp [e3, this]
        · have : ¬ i < n + 1 := by omega
          simp [e3, this]
theorem mlk_FB {rw co : Int32} {r c N : Nat} (g : gok rw co r c N) {f bd hf : Nat → Int32} (h : FB N f bd) {j : Nat} (hj : j < 10) : mlk rw co bd hf j = f j := by
  unfold mlk
  rw [if_pos hj, gmN g]
  apply bt_ext
  intro i hi
  rw [bt_mhv N (gN g).2 i hi, h j hj i hi]
/-- the size of the field of k, the count of its room -/
def fsz (rw co : Int32) (f : Nat → Int32) (v k : Nat) : Nat := cn (gw rw co (f v) (zbit (nI k))) 12
def rsz (rw co : Int32) (f : Nat → Int32) (v k : Nat) : Nat := cn (gw rw co (f v ||| f 0) (zbit (nI k))) 12
theorem zfo_gw {rw co : Int32} {r c N : Nat} (g : gok rw co r c N) {f bd : Nat → Int32} (h : FB N f bd) {k v : Nat} (hk : k < N) (h1 : 1 ≤ v) (hv : v < 10) (e : bd k = nI v) : zfo co (zac rw co) (zfc co r) (zlc co (zfc co r)) f (nI k) = gw rw co (f v) (zbit (nI k)) := by
  unfold zfo
  rw [zni_FB h (gN g).2 hk hv e, if_neg (nI_ne0 h1 (by omega)), zcw_nI hv, zsp_gw g (one_sm g hk)]
theorem zro_gw {rw co : Int32} {r c N : Nat} (g : gok rw co r c N) {f bd : Nat → Int32} (h : FB N f bd) {k v : Nat} (hk : k < N) (h1 : 1 ≤ v) (hv : v < 10) (e : bd k = nI v) : zro co (zac rw co) (zfc co r) (zlc co (zfc co r)) f (nI k) = gw rw co (f v ||| f 0) (zbit (nI k)) := by
  unfold zro
  rw [zni_FB h (gN g).2 hk hv e, if_neg (nI_ne0 h1 (by omega)), zcw_nI hv, zsp_gw g (one_sm g hk)]
theorem mfo_gw {rw co : Int32} {r c N : Nat} (g : gok rw co r c N) {f bd hf : Nat → Int32} (h : FB N f bd) {k v : Nat} (hk : k < N) (hv : v < 10) (e : bd k = nI v) : mfo rw co bd (mlk rw co bd hf) (nI k) = gw rw co (f v) (zbit (nI k)) := by
  have := (gN g).2
  unfold mfo
  rw [nI_clamp (by omega), e, nI_clamp (by omega), mlk_FB g h hv, mgr_33 g (one_sm g hk)]
theorem mro_gw {rw co : Int32} {r c N : Nat} (g : gok rw co r c N) {f bd hf : Nat → Int32} (h : FB N f bd) {k v : Nat} (hk : k < N) (hv : v < 10) (e : bd k = nI v) : mro rw co bd (mlk rw co bd hf) (nI k) = nI (rsz rw co f v k) := by
  have := (gN g).2
  unfold mro
  rw [nI_clamp (by omega), e, nI_clamp (by omega), mlk_FB g h hv, mlk_FB g h (by decide), mgr_33 g (one_sm g hk), mcn_cn this (gw_sm g (one_sm g hk)) 12 (by decide)]
  rfl
/-- every field has at most its number of cells, and room for as many -/
def SND (rw co : Int32) (f : Nat → Int32) : Prop := ∀ v, 1 ≤ v → v < 10 → ∀ k, bt (f v) k = true → fsz rw co f v k ≤ v ∧ v ≤ rsz rw co f v k
theorem cn_12 (x : Int32) : cn x 12 < 2 ^ 31 := Nat.lt_of_le_of_lt (cn_le x 12) (by decide)
theorem ztl_zlp {rw co : Int32} {r c N : Nat} (g : gok rw co r c N) {w n : Int32} : ∀ (j : Nat) (left : Int32), sm N left → ztl co (zac rw co) (zfc co r) (zlc co (zfc co r)) w n j left = zlp rw co w (fun x => decide (n < bc x)) j left
  | 0, _, _ => rfl
  | j + 1, left, hs => by
    rw [ztl, zlp]
    by_cases h0 : left = 0
    · rw [if_pos h0, if_pos h0]
    · rw [if_neg h0, if_neg h0]
      obtain ⟨k, hk, _, e⟩ := low_one (gN g).2 hs h0
      rw [e, zsp_gw g (one_sm g hk)]
      simp only [decide_eq_true_eq]
      split
      · rfl
      · exact ztl_zlp g j _ (sm_and hs _)
theorem ztr_zlp {rw co : Int32} {r c N : Nat} (g : gok rw co r c N) {w n : Int32} : ∀ (j : Nat) (left : Int32), sm N left → ztr co (zac rw co) (zfc co r) (zlc co (zfc co r)) w n j left = zlp rw co w (fun x => decide (bc x < n)) j left
  | 0, _, _ => rfl
  | j + 1, left, hs => by
    rw [ztr, zlp]
    by_cases h0 : left = 0
    · rw [if_pos h0, if_pos h0]
    · rw [if_neg h0, if_neg h0]
      obtain ⟨k, hk, _, e⟩ := low_one (gN g).2 hs h0
      rw [e, zsp_gw g (one_sm g hk)]
      simp only [decide_eq_true_eq]
      split
      · rfl
      · exact ztr_zlp g j _ (sm_and hs _)
theorem zTL_iff {rw co : Int32} {r c N : Nat} (g : gok rw co r c N) {f bd : Nat → Int32} (h : FB N f bd) {v : Nat} (hv : v < 10) : zTL co (zac rw co) (zfc co r) (zlc co (zfc co r)) f (nI v) = true ↔ ∃ k, bt (f v) k = true ∧ v < fsz rw co f v k := by
  unfold zTL
  rw [zcw_nI hv, ztl_zlp g 12 _ (FB_sm h hv), zlp_iff g 12 _ (FB_sm h hv) (fun _ z => z) (cn_le _ _)]
  refine exists_congr fun k => and_congr_right fun hk => ?_
  rw [decide_eq_true_eq, bc_cn (gN g).2 (gw_sm g (one_sm g (sm_lt (FB_sm h hv) hk))), nI_ltI (by omega) (cn_12 _)]
  rfl
theorem zTR_iff {rw co : Int32} {r c N : Nat} (g : gok rw co r c N) {f bd : Nat → Int32} (h : FB N f bd) {v : Nat} (hv : v < 10) : zTR co (zac rw co) (zfc co r) (zlc co (zfc co r)) f (nI v) = true ↔ ∃ k, bt (f v) k = true ∧ rsz rw co f v k < v := by
  unfold zTR
  rw [zcw_nI hv, ztr_zlp g 12 _ (FB_sm h hv), zlp_iff g 12 _ (FB_sm h hv) (fun i z => by rw [bt_or, z]; rfl) (cn_le _ _)]
  refine exists_congr fun k => and_congr_right fun hk => ?_
  rw [decide_eq_true_eq, bc_cn (gN g).2 (gw_sm g (one_sm g (sm_lt (FB_sm h hv) hk))), nI_ltI (cn_12 _) (by omega)]
  rfl
theorem zso_iff {rw co : Int32} {r c N : Nat} (g : gok rw co r c N) {f bd : Nat → Int32} (h : FB N f bd) : zso co (zac rw co) (zfc co r) (zlc co (zfc co r)) f 9 = true ↔ SND rw co f := by
  have step : ∀ n, n ≤ 9 → (zso co (zac rw co) (zfc co r) (zlc co (zfc co r)) f n = true ↔ ∀ v, 10 - n ≤ v → v < 10 → ∀ k, bt (f v) k = true → fsz rw co f v k ≤ v ∧ v ≤ rsz rw co f v k) := by
    intro n
    induction n with
    | zero =>
      intro _
      exact ⟨fun _ v h1 h2 => by omega, fun _ => rfl⟩
    | succ n ih =>
      intro hn
      rw [zso]
      have hv : 9 - n < 10 := by omega
      by_cases hb : (zTL co (zac rw co) (zfc co r) (zlc co (zfc co r)) f (nI (9 - n)) || zTR co (zac rw co) (zfc co r) (zlc co (zfc co r)) f (nI (9 - n))) = true
      · rw [if_pos hb]
        constructor
        · intro z; exact absurd z (by decide)
        · intro z
          rw [Bool.or_eq_true, zTL_iff g h hv, zTR_iff g h hv] at hb
          rcases hb with ⟨k, h1, h2⟩ | ⟨k, h1, h2⟩
          · have := (z _ (by omega) hv k h1).1; omega
          · have := (z _ (by omega) hv k h1).2; omega
      · rw [if_neg hb, ih (by omega)]
        rw [Bool.or_eq_true, zTL_iff g h hv, zTR_iff g h hv] at hb
        constructor
        · intro z v h1 h2 k hk
          by_cases e : v = 9 - n
          · subst e
            refine ⟨Nat.le_of_not_lt fun q => hb (Or.inl ⟨k, hk, q⟩), Nat.le_of_not_lt fun q => hb (Or.inr ⟨k, hk, q⟩)⟩
          · exact z v (by omega) h2 k hk
        · intro z v h1 h2
          exact z v (by omega) h2
  exact step 9 (by decide)
theorem mso_iff {rw co : Int32} {r c N : Nat} (g : gok rw co r c N) {f bd hf : Nat → Int32} (h : FB N f bd) (hb : bv N bd) : mso rw co bd hf = true ↔ SND rw co f := by
  have hN := (gN g).2
  have one : ∀ k, k < N → (mcond rw co bd (mlk rw co bd hf) (nI k) = true ↔ ∀ v, 1 ≤ v → v < 10 → bt (f v) k = true → fsz rw co f v k ≤ v ∧ v ≤ rsz rw co f v k) := by
    intro k hk
    obtain ⟨v, hv, e⟩ := hb k hk
    unfold mcond
    rw [nI_clamp (by omega), e, mfo_gw g h hk hv e, mro_gw g h hk hv e, mcn_cn hN (gw_sm g (one_sm g hk)) 12 (by decide)]
    simp only [Bool.or_eq_true, Bool.and_eq_true, decide_eq_true_eq]
    rw [nI_leI (cn_12 _) (by omega), nI_leI (a := v) (b := rsz rw co f v k) (by omega) (cn_12 _)]
    constructor
    · rintro (h0 | h0) w h1 h2 h3
      · have e2 := ((FB_iff h hN h2).mp h3).2
        rw [e] at e2
        have e2 := nI_inj (by omega) (by omega) e2
        subst e2
        exact absurd h0 (nI_ne0 h1 (by omega))
      · have e2 := ((FB_iff h hN h2).mp h3).2
        rw [e] at e2
        have e2 := nI_inj (by omega) (by omega) e2
        subst e2
        exact h0
    · intro z
      by_cases h0 : v = 0
      · subst h0; exact Or.inl nI_0
      · exact Or.inr (z v (by omega) hv ((FB_iff h hN hv).mpr ⟨hk, e⟩))
  have step : ∀ j, j ≤ N → (msF rw co bd (mlk rw co bd hf) N j = true ↔ ∀ k, N - j ≤ k → k < N → mcond rw co bd (mlk rw co bd hf) (nI k) = true) := by
    intro j
    induction j with
    | zero => intro _; exact ⟨fun _ k h1 h2 => by omega, fun _ => rfl⟩
    | succ j ih =>
      intro hj
      rw [msF, Bool.and_eq_true, ih (by omega)]
      constructor
      · rintro ⟨h1, h2⟩ k h3 h4
        by_cases e : k = N - (j + 1)
        · rw [e]; exact h1
        · exact h2 k (by omega) h4
      · intro z
        exact ⟨z _ (Nat.le_refl _) (by omega), fun k h1 h2 => z k (by omega) h2⟩
  unfold mso
  rw [gmN g, step N (Nat.le_refl _)]
  constructor
  · intro z v h1 h2 k hk
    have hkN := ((FB_iff h hN h2).mp hk).1
    exact (one k hkN).mp (z k (by omega) hkN) v h1 h2 hk
  · intro z k _ hk
    exact (one k hk).mpr (fun v h1 h2 h3 => z v h1 h2 k h3)
