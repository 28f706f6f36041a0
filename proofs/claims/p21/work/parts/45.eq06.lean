/-! a solved board holds each number a multiple of the number's times: so the class's look ahead loses nothing -/
theorem cn_split (y m : Int32) : ∀ n, n ≤ 32 → cn y n = cn (y &&& m) n + cn (y &&& (m ^^^ (-1))) n
  | 0, _ => rfl
  | n + 1, h => by
    have ih := cn_split y m n (by omega)
    simp only [cn]
    rw [bt_and, bt_and, bt_not (by omega), ih]
    cases bt y n <;> cases bt m n <;> simp <;> omega
theorem fields_mul {rw co : Int32} {r c N : Nat} (g : gok rw co r c N) {w : Int32} {v : Nat} : ∀ (n : Nat) (y : Int32), cn y 12 ≤ n → sm N y → (∀ i, bt y i = true → bt w i = true) → (∀ k, bt y k = true → ∀ i, bt (gw rw co w (zbit (nI k))) i = true → bt y i = true) → (∀ k, bt y k = true → cn (gw rw co w (zbit (nI k))) 12 = v) → ∃ q, cn y 12 = v * q
  | 0, y, h, hs, _, _, _ => ⟨0, by omega⟩
  | n + 1, y, h, hs, hw, hc, hv => by
    have hN := (gN g).2
    by_cases h0 : y = 0
    · subst h0
      refine ⟨0, ?_⟩
      have : ∀ k, cn 0 k = 0 := by
        intro k
        induction k with
        | zero => rfl
        | succ k ih => rw [cn, ih, bt_0]; rfl
      rw [this]; rfl
    · obtain ⟨k, hk, hb, -⟩ := low_one hN hs h0
      have e := cn_split y (gw rw co w (zbit (nI k))) 12 (by decide)
      have e1 : y &&& gw rw co w (zbit (nI k)) = gw rw co w (zbit (nI k)) := by
        apply bt_eq
        intro i
        rw [bt_and, Bool.and_eq_true]
        exact ⟨fun z => z.2, fun z => ⟨hc k hb i z, z⟩⟩
      rw [e1, hv k hb] at e
      have hlt : cn (y &&& (gw rw co w (zbit (nI k)) ^^^ (-1))) 12 < cn y 12 := by
        refine cn_lt (fun i hi => ?_) (j := k) ?_ hb 12 (by omega)
        · rw [bt_and, Bool.and_eq_true] at hi; exact hi.1
        · rw [bt_and, bt_not (by omega), gw_self g hk, hb]; rfl
      have hin : ∀ i, bt (y &&& (gw rw co w (zbit (nI k)) ^^^ (-1))) i = true → bt y i = true := fun i hi => by rw [bt_and, Bool.and_eq_true] at hi; exact hi.1
      obtain ⟨q, hq⟩ := fields_mul g (w := w) (v := v) n _ (by omega) (sm_and hs _) (fun i hi => hw i (hin i hi)) (fun j hj i hi => by
        have hj0 := hin j hj
        have hjN := sm_lt hs hj0
        rw [bt_and, bt_not (by omega), Bool.and_eq_true] at hj
        have hi0 := hc j hj0 i hi
        have hiN := sm_lt hs hi0
        rw [bt_and, bt_not (by omega), hi0]
        cases h3 : bt (gw rw co w (zbit (nI k))) i
        · rfl
        · have a1 := gw_same g hk (hw k hb) h3
          have a2 := gw_same g hjN (hw j hj0) hi
          rw [a1] at a2
          rw [a2, gw_self g hjN] at hj
          exact absurd hj.2 (by decide)) (fun j hj => hv j (hin j hj))
      exact ⟨q + 1, by rw [e, hq, Nat.mul_succ, Nat.add_comm]⟩
def FUL (N : Nat) (bd : Nat → Int32) : Prop := ∀ k, k < N → ¬ bd k = 0
theorem solved_mul {rw co : Int32} {r c N : Nat} (g : gok rw co r c N) {f bd : Nat → Int32} (h : FB N f bd) (hf : FUL N bd) (hs : SND rw co f) {v : Nat} (h1 : 1 ≤ v) (hv : v < 10) : ∃ q, cn (f v) 12 = v * q := by
  have hN := (gN g).2
  have e0 : f 0 = 0 := by
    apply bt_eq
    intro i
    rw [FB_0 h hN, bt_0]
    exact ⟨fun z => absurd z.2 (hf i z.1), fun z => absurd z (by decide)⟩
  refine fields_mul g (w := f v) (v := v) 12 (f v) (cn_le _ _) (FB_sm h hv) (fun _ z => z) (fun k hk => gw_w g (one_sm g (sm_lt (FB_sm h hv) hk)) (fun i hi => by rw [(bt_one g (sm_lt (FB_sm h hv) hk)).mp hi]; exact hk)) (fun k hk => ?_)
  have z := hs v h1 hv k hk
  have e1 : rsz rw co f v k = fsz rw co f v k := by
    unfold rsz fsz
    rw [e0, show f v ||| 0 = f v from Int32.or_zero]
  rw [e1] at z
  exact Nat.le_antisymm z.1 z.2
def sumF (a : Nat → Nat) : Nat → Nat | 0 => 0 | n + 1 => sumF a n + a n
theorem sumF_add (a b : Nat → Nat) : ∀ n, sumF (fun v => a v + b v) n = sumF a n + sumF b n
  | 0 => rfl
  | n + 1 => by simp only [sumF]; rw [sumF_add a b n]; omega
theorem sumF_congr {a b : Nat → Nat} : ∀ n, (∀ v, v < n → a v = b v) → sumF a n = sumF b n
  | 0, _ => rfl
  | n + 1, h => by simp only [sumF]; rw [sumF_congr n (fun v hv => h v (by omega)), h n (by omega)]
theorem sumF_le {a b : Nat → Nat} : ∀ n, (∀ v, v < n → a v ≤ b v) → sumF a n ≤ sumF b n
  | 0, _ => Nat.le_refl _
  | n + 1, h => by have := sumF_le n (fun v hv => h v (by omega)); have := h n (by omega); simp only [sumF]; omega
theorem sumF_one (w : Nat) : ∀ n, sumF (fun v => if v = w then 1 else 0) n = if w < n then 1 else 0
  | 0 => rfl
  | n + 1 => by
    simp only [sumF]
    rw [sumF_one w n]
    by_cases h1 : w < n
    · rw [if_pos h1, if_neg (by omega), if_pos (by omega)]
    · by_cases h2 : n = w
      · rw [if_neg h1, if_pos h2, if_pos (by omega)]
      · rw [if_neg h1, if_neg h2, if_neg (by omega)]
theorem sumF_0 : ∀ n, sumF (fun _ => 0) n = 0
  | 0 => rfl
  | n + 1 => by simp only [sumF]; rw [sumF_0 n]
/-- every cell holds one number -/
theorem cells_all {N : Nat} {f bd : Nat → Int32} (h : FB N f bd) (hN : N ≤ 12) (hb : bv N bd) : sumF (fun v => cn (f v) 12) 10 = N := by
  have step : ∀ n, n ≤ 12 → sumF (fun v => cn (f v) n) 10 = if n < N then n else N := by
    intro n
    induction n with
    | zero =>
      intro _
      rw [show (fun v => cn (f v) 0) = (fun _ => 0) from rfl, sumF_0]
      split <;> omega
    | succ n ih =>
      intro hn
      have ih := ih (by omega)
      simp only [cn]
      rw [sumF_add, ih]
      by_cases h1 : n < N
      · obtain ⟨v, hv, e⟩ := hb n h1
        rw [sumF_congr (b := fun w => if w = v then 1 else 0) 10 (fun w hw => by
          by_cases ew : w = v
          · subst ew; rw [if_pos rfl, if_pos ((FB_iff h hN hw).mpr ⟨h1, e⟩)]
          · rw [if_neg ew, if_neg (fun z => by
              have := ((FB_iff h hN hw).mp z).2
              rw [e] at this
              exact ew (nI_inj (by omega) (by omega) this).symm)]), sumF_one, if_pos hv, if_pos h1]
        split <;> omega
      · rw [sumF_congr (b := fun _ => 0) 10 (fun w hw => if_neg (fun z => h1 ((FB_iff h hN hw).mp z).1)), sumF_0, if_neg h1, if_neg (by omega), Nat.add_zero]
  rw [step 12 (by decide)]
  split <;> omega
/-- cells wanting until the count is a multiple -/
def wnt (a v : Nat) : Nat := (v - a % v) % v
theorem zfm_all : ∀ a, a < 14 → ∀ v, v < 10 → 1 ≤ v → zfm (-(nI a)) (nI v) = nI (wnt a v) := by decide +kernel
theorem wnt_le {a v q : Nat} (h1 : 1 ≤ v) (h : a ≤ v * q) : a + wnt a v ≤ v * q := by
  unfold wnt
  have e := Nat.div_add_mod a v
  have hlt := Nat.mod_lt a h1
  by_cases h0 : a % v = 0
  · rw [h0, Nat.sub_zero, Nat.mod_self]; exact h
  · rw [Nat.mod_eq_of_lt (by omega)]
    have : a / v < q := by
      apply Classical.byContradiction
      intro hn
      have := Nat.mul_le_mul_left v (Nat.le_of_not_lt hn)
      omega
    have := Nat.mul_le_mul_left v this
    rw [Nat.mul_succ] at this
    omega
theorem wnt_lt {a v : Nat} (h1 : 1 ≤ v) : wnt a v < v := Nat.mod_lt _ h1
/-- the numbers 1 .. 9 with the one more cell of v -/
def wsum (f : Nat → Int32) (v : Nat) : Nat → Nat := fun m => if m = 0 then 0 else wnt (cn (f m) 12 + (if m = v then 1 else 0)) m
theorem sumF_mono (w : Nat → Nat) {a : Nat} : ∀ b, a ≤ b → sumF w a ≤ sumF w b
  | 0, h => by rw [show a = 0 by omega]; exact Nat.le_refl _
  | b + 1, h => by
    by_cases e : a = b + 1
    · rw [e]; exact Nat.le_refl _
    · have := sumF_mono w (a := a) b (by omega)
      simp only [sumF]; omega
theorem zle_nI {N : Nat} {f bd : Nat → Int32} (h : FB N f bd) (hN : N ≤ 12) {v : Nat} (hv : v < 10) : ∀ n, n ≤ 9 → ∀ k, zle f (nI v) n (nI k) = nI (k + (sumF (wsum f v) 10 - sumF (wsum f v) (10 - n)))
  | 0, _, k => by rw [zle, Nat.sub_zero, Nat.sub_self, Nat.add_zero]
  | n + 1, hn, k => by
    have hm : 9 - n < 10 := by omega
    have hcn := cn_le (f (9 - n)) 12
    have e1 : bc (zcw f (nI (9 - n))) + (if nI (9 - n) = nI v then 1 else 0) = nI (cn (f (9 - n)) 12 + (if 9 - n = v then 1 else 0)) := by
      rw [zcw_nI hm, bc_cn hN (FB_sm h hm)]
      by_cases e : 9 - n = v
      · subst e; rw [if_pos rfl, if_pos rfl, nI_1]
      · rw [if_neg e, if_neg (fun z => e (nI_inj (by omega) (by omega) z)), Int32.add_zero, Nat.add_zero]
    rw [zle, e1, zfm_all _ (by split <;> omega) _ hm (by omega), nI_add, zle_nI h hN hv n (by omega)]
    have e2 : 10 - n = (9 - n) + 1 := by omega
    have e3 : sumF (wsum f v) (10 - n) = sumF (wsum f v) (9 - n) + wnt (cn (f (9 - n)) 12 + (if 9 - n = v then 1 else 0)) (9 - n) := by
      rw [e2]
      simp only [sumF, wsum]
      rw [if_neg (by omega)]
    have e4 := sumF_mono (wsum f v) (a := 10 - n) 10 (by omega)
    rw [show 10 - (n + 1) = 9 - n by omega]
    congr 1
    omega
theorem zle_9 {N : Nat} {f bd : Nat → Int32} (h : FB N f bd) (hN : N ≤ 12) {v : Nat} (hv : v < 10) : zle f (nI v) 9 0 = nI (sumF (wsum f v) 10) := by
  have := zle_nI h hN hv 9 (by decide) 0
  rw [nI_0] at this
  rw [this, Nat.zero_add]
  congr 1
/-- b fills what is empty on a, and nothing else -/
def EXT (N : Nat) (a b : Nat → Int32) : Prop := ∀ k, k < N → ¬ a k = 0 → b k = a k
/-- where a solved board comes of a number, the look ahead lets the number through -/
theorem prune {rw co : Int32} {r c N : Nat} (g : gok rw co r c N) {f bd f' bd' : Nat → Int32} (h : FB N f bd) (hb : bv N bd) (h' : FB N f' bd') (hb' : bv N bd') (hf : FUL N bd') (hs : SND rw co f') {k v : Nat} (hk : k < N) (h1 : 1 ≤ v) (hv : v < 10) (h0 : bd k = 0) (hx : EXT N (upd bd k (nI v)) bd') : zle f (nI v) 9 0 < bc (f 0) := by
  have hN := (gN g).2
  rw [zle_9 h hN hv, bc_cn hN (FB_sm h (by decide))]
  have hle : ∀ m, 1 ≤ m → m < 10 → cn (f m) 12 + (if m = v then 1 else 0) + wnt (cn (f m) 12 + (if m = v then 1 else 0)) m ≤ cn (f' m) 12 := by
    intro m h2 h3
    obtain ⟨q, e⟩ := solved_mul g h' hf hs h2 h3
    rw [e]
    refine wnt_le h2 ?_
    rw [← e]
    have hsub : ∀ i, bt (f m) i = true → bt (f' m) i = true := by
      intro i hi
      have hi := (FB_iff h hN h3).mp hi
      have hik : ¬ i = k := by
        intro e2; subst e2
        rw [h0, ← nI_0] at hi
        have := nI_inj (by omega) (by omega) hi.2; omega
      rw [FB_iff h' hN h3]
      refine ⟨hi.1, ?_⟩
      have e3 : upd bd k (nI v) i = nI m := by unfold upd; rw [if_neg hik]; exact hi.2
      rw [hx i hi.1 (by rw [e3]; exact nI_ne0 h2 (by omega)), e3]
    by_cases e2 : m = v
    · subst e2
      rw [if_pos rfl]
      have hkf : bt (f' m) k = true := by
        rw [FB_iff h' hN h3]
        have e3 : upd bd k (nI m) k = nI m := by unfold upd; rw [if_pos rfl]
        exact ⟨hk, by rw [hx k hk (by rw [e3]; exact nI_ne0 h2 (by omega)), e3]⟩
      have hkn : bt (f m) k = false := by
        cases hq : bt (f m) k
        · rfl
        · have := ((FB_iff h hN h3).mp hq).2
          rw [h0, ← nI_0] at this
          have := nI_inj (by omega) (by omega) this; omega
      exact cn_lt hsub hkn hkf 12 (by omega)
    · rw [if_neg e2]
      exact cn_mono hsub 12
  have e1 := cells_all h hN hb
  have e2 := cells_all h' hN hb'
  have z0 : cn (f' 0) 12 = 0 := by
    have : f' 0 = 0 := by
      apply bt_eq
      intro i
      rw [FB_0 h' hN, bt_0]
      exact ⟨fun z => absurd z.2 (hf i z.1), fun z => absurd z (by decide)⟩
    rw [this]; rfl
  have hsum := sumF_le (a := fun m => (if m = 0 then 0 else cn (f m) 12) + ((if m = v then 1 else 0) + wsum f v m)) (b := fun m => if m = 0 then 0 else cn (f' m) 12) 10 (fun m hm => by
    by_cases e : m = 0
    · subst e
      have : ¬ 0 = v := by omega
      simp [wsum, this]
    · have := hle m (by omega) hm
      simp only [wsum, if_neg e]
      omega)
  rw [sumF_add, sumF_add, sumF_one, if_pos hv] at hsum
  have e3 : ∀ F : Nat → Int32, sumF (fun m => cn (F m) 12) 10 = cn (F 0) 12 + sumF (fun m => if m = 0 then 0 else cn (F m) 12) 10 := by
    intro F
    have : sumF (fun m => cn (F m) 12) 10 = sumF (fun m => (if m = 0 then cn (F 0) 12 else 0) + (if m = 0 then 0 else cn (F m) 12)) 10 := by
      refine sumF_congr 10 (fun m _ => ?_)
      by_cases e : m = 0
      · subst e; simp
      · simp [e]
    rw [this, sumF_add]
    congr 1
    simp [sumF]
  rw [e3 f] at e1
  rw [e3 f'] at e2
  refine nI_lt ?_ (cn_12 _)
  omega
