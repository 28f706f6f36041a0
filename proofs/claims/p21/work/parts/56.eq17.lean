/-! the relation of the two: its parts -/
def clb (cl : Int32) (bd : Nat → Int32) : Nat → Int32 := fun k => if bt cl k then bd k else 0
/-- what is common to all calls: sizes, boards, clues -/
def RB (rw co : Int32) (r c N : Nat) (bf cf bd : Nat → Int32) (cl : Int32) : Prop :=
  gok rw co r c N ∧ FB N bf bd ∧ FB N cf (clb cl bd) ∧ bv 12 bd ∧ SND rw co bf ∧ SND rw co cf ∧ ∀ i, bt cl i = true → i < N ∧ ¬ bd i = 0
/-- the log -/
def RL_ (N : Nat) (bf bd : Nat → Int32) (cl : Int32) (lgf lf : Nat → Int32) (n : Nat) : Prop :=
  n + cn (bf 0) 12 + cn cl 12 = N ∧ (∀ i, i < n → ∃ k, k < N ∧ lgf i = nI k ∧ lf i = nI k ∧ ¬ bt cl k = true ∧ ¬ bd k = 0) ∧ (∀ i j, i < j → j < n → ¬ lf i = lf j) ∧ ∀ k, k < N → ¬ bd k = 0 → ¬ bt cl k = true → ∃ i, i < n ∧ lf i = nI k
theorem bv_le {N : Nat} (hN : N ≤ 12) {bd : Nat → Int32} (h : bv 12 bd) : bv N bd := fun k hk => h k (by omega)
theorem mok_of {rw co : Int32} {r c N : Nat} (g : gok rw co r c N) {bd : Nat → Int32} (h : bv 12 bd) : mok rw co bd := ⟨⟨N, (gN g).2, gmul g⟩, fun k hk => by obtain ⟨v, hv, e⟩ := h k hk; rw [e]; exact vp_in_nI hv (by omega)⟩
theorem zval_FB {N : Nat} (hN : N ≤ 12) {f bd : Nat → Int32} (h : FB N f bd) : zval f := by
  intro k h1 h2 i hi h0
  have := ((FB_0 h hN).mp h0).2
  cases hq : bt (f k) i
  · rfl
  · have e := ((FB_iff h hN h2).mp hq).2
    rw [this, ← nI_0] at e
    have := nI_inj (by omega) (by omega) e; omega
theorem cellc {rw co : Int32} {r c N : Nat} (g : gok rw co r c N) (a : Int32) : (zxc (zac rw co) a = 0 ∧ mic rw co a = true ∧ ∃ k, k < N ∧ a = nI k) ∨ (zxc (zac rw co) a = 1 ∧ mic rw co a = false) := by
  have hN := gN g
  unfold zxc mic min3
  rw [gbc g, gmul g, show nI N - 1 = nI (N - 1) by rw [show (1 : Int32) = nI 1 from rfl, pk_subI (by omega)]]
  by_cases h0 : a < 0
  · rw [if_pos h0]
    right
    exact ⟨rfl, by rw [decide_eq_false (Int32.not_le.mpr h0)]; rfl⟩
  · obtain ⟨k, hk, rfl⟩ := nI_of h0
    rw [if_neg h0, decide_eq_true (Int32.not_lt.mp h0), Bool.true_and]
    by_cases h1 : k < N
    · left
      rw [if_pos (nI_lt h1 (by omega)), decide_eq_true (nI_le (show k ≤ N - 1 by omega) (by omega))]
      exact ⟨rfl, rfl, k, h1, rfl⟩
    · right
      rw [if_neg (nI_nlt (show N ≤ k by omega) hk), decide_eq_false (fun z => h1 (by have := k_le hk (by omega) z; omega))]
      exact ⟨rfl, rfl⟩
theorem numc (a : Int32) : (zxn a = 0 ∧ min3 a 1 9 = true ∧ ∃ v, 1 ≤ v ∧ v < 10 ∧ a = nI v) ∨ (zxn a = 2 ∧ min3 a 1 9 = false) := by
  unfold zxn min3
  by_cases h0 : a < 1
  · rw [if_pos h0, decide_eq_false (Int32.not_le.mpr h0)]
    exact Or.inr ⟨rfl, rfl⟩
  · have h1 : (1 : Int32) ≤ a := Int32.not_lt.mp h0
    rw [if_neg h0, decide_eq_true h1, Bool.true_and]
    by_cases h9 : a ≤ 9
    · rw [if_pos h9, decide_eq_true h9]
      left
      refine ⟨rfl, rfl, ?_⟩
      have hz : ¬ a < 0 := fun z => h0 (Int32.lt_trans z (by decide))
      obtain ⟨k, hk, rfl⟩ := nI_of hz
      have a1 := (nI_leI (a := 1) (by decide) hk).mp h1
      have a2 := (nI_leI (b := 9) hk (by decide)).mp h9
      exact ⟨k, a1, by omega, rfl⟩
    · rw [if_neg h9, decide_eq_false h9]
      exact Or.inr ⟨rfl, rfl⟩
theorem updL_0 (ov : Nat → Int64) (k : Nat) (x : Int64) : vp_updL ov k x k = x := by simp [vp_updL]
theorem clb_bv {N : Nat} {cl : Int32} {bd : Nat → Int32} (h : bv N bd) : bv N (clb cl bd) := by
  intro k hk
  unfold clb
  split
  · exact h k hk
  · exact ⟨0, by decide, nI_0.symm⟩
