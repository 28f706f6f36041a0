/-! what the law asks of one cell: size, room, solved -/
theorem FB_eq {N : Nat} {f f' bd : Nat → Int32} (h : FB N f bd) (h' : FB N f' bd) {j : Nat} (hj : j < 10) : f j = f' j :=
  bt_ext (fun i hi => by rw [h j hj i hi, h' j hj i hi])
theorem FB_lco {N : Nat} {f bd : Nat → Int32} (h : FB N f bd) (hN : N ≤ 12) {v : Nat} (hv : v < 10) : lco bd (nI v) N = f v := by
  rw [lco_fob]; exact FB_eq (FB_fob hN bd) h hv
theorem FB_lco0 {N : Nat} {f bd : Nat → Int32} (h : FB N f bd) (hN : N ≤ 12) : lco bd 0 N = f 0 := FB_lco h hN (v := 0) (by decide)
def szv (rw co : Int32) (N : Nat) (bd : Nat → Int32) (k : Nat) : Int32 := if bd k = 0 then 0 else nI (cn (gw rw co (lco bd (bd k) N) (zbit (nI k))) 12)
def rmv (rw co : Int32) (N : Nat) (bd : Nat → Int32) (k : Nat) : Int32 := if bd k = 0 then 0 else nI (cn (gw rw co (lco bd (bd k) N ||| lco bd 0 N) (zbit (nI k))) 12)
theorem nI_ne0' {v : Nat} (h1 : 1 ≤ v) (hv : v < 10) : ¬ nI v = 0 := nI_ne0 (by omega) (by omega)
theorem bc_0 : bc 0 = 0 := by decide
section
variable {rw co : Int32} {r c N : Nat} {f bd hf : Nat → Int32} {k : Nat}
theorem val_or (hb : bv N bd) (hk : k < N) : bd k = 0 ∨ ∃ v, 1 ≤ v ∧ v < 10 ∧ bd k = nI v := by
  obtain ⟨v, hv, e⟩ := hb k hk
  cases v with
  | zero => exact Or.inl (e.trans nI_0)
  | succ v => exact Or.inr ⟨v + 1, by omega, hv, e⟩
theorem szv_v (g : gok rw co r c N) (h : FB N f bd) {v : Nat} (h1 : 1 ≤ v) (hv : v < 10) (e : bd k = nI v) : szv rw co N bd k = nI (fsz rw co f v k) := by
  unfold szv fsz
  rw [e, if_neg (nI_ne0' h1 hv), FB_lco h (gN g).2 hv]
theorem rmv_v (g : gok rw co r c N) (h : FB N f bd) {v : Nat} (h1 : 1 ≤ v) (hv : v < 10) (e : bd k = nI v) : rmv rw co N bd k = nI (rsz rw co f v k) := by
  unfold rmv rsz
  rw [e, if_neg (nI_ne0' h1 hv), FB_lco h (gN g).2 hv, FB_lco0 h (gN g).2]
theorem szv_0 (e : bd k = 0) : szv rw co N bd k = 0 := by unfold szv; rw [if_pos e]
theorem rmv_0 (e : bd k = 0) : rmv rw co N bd k = 0 := by unfold rmv; rw [if_pos e]
theorem zsz (g : gok rw co r c N) (h : FB N f bd) (hb : bv N bd) (hk : k < N) : bc (zfo co (zac rw co) (zfc co r) (zlc co (zfc co r)) f (nI k)) = szv rw co N bd k := by
  have hN := (gN g).2
  rcases val_or hb hk with e | ⟨v, h1, hv, e⟩
  · rw [szv_0 e]
    unfold zfo
    rw [zni_FB h hN hk (v := 0) (by decide) (by rw [e, nI_0]), if_pos nI_0]
    exact bc_0
  · rw [zfo_gw g h hk h1 hv e, bc_cn hN (gw_sm g (one_sm g hk)), szv_v g h h1 hv e]; rfl
theorem zrm (g : gok rw co r c N) (h : FB N f bd) (hb : bv N bd) (hk : k < N) : bc (zro co (zac rw co) (zfc co r) (zlc co (zfc co r)) f (nI k)) = rmv rw co N bd k := by
  have hN := (gN g).2
  rcases val_or hb hk with e | ⟨v, h1, hv, e⟩
  · rw [rmv_0 e]
    unfold zro
    rw [zni_FB h hN hk (v := 0) (by decide) (by rw [e, nI_0]), if_pos nI_0]
    exact bc_0
  · rw [zro_gw g h hk h1 hv e, bc_cn hN (gw_sm g (one_sm g hk)), rmv_v g h h1 hv e]; rfl
theorem zat (g : gok rw co r c N) (h : FB N f bd) (hb : bv N bd) (hk : k < N) : zni f (nI k) 9 = bd k := by
  obtain ⟨v, hv, e⟩ := hb k hk
  rw [zni_FB h (gN g).2 hk hv e, e]
theorem zxc_k (g : gok rw co r c N) (hk : k < N) : zxc (zac rw co) (nI k) = 0 := by
  rcases cellc g (nI k) with h | ⟨_, h⟩
  · exact h.1
  · exfalso
    have hN := (gN g).2
    unfold mic min3 at h
    rw [gmul g] at h
    have e1 : decide ((0 : Int32) ≤ nI k) = true := decide_eq_true (by rw [← nI_0]; exact (nI_leI (by decide) (by omega)).mpr (Nat.zero_le _))
    have e2 : decide (nI k ≤ nI N - 1) = true := decide_eq_true (by
      obtain ⟨M, rfl⟩ : ∃ M, N = M + 1 := ⟨N - 1, by omega⟩
      rw [nI_pred]
      exact (nI_leI (by omega) (by omega)).mpr (by omega))
    rw [e1, e2] at h
    exact absurd h (by decide)
theorem zcl (g : gok rw co r c N) {cf : Nat → Int32} {cl : Int32} (h : FB N cf (clb cl bd)) (hb : bv N bd) (hcl : ∀ i, bt cl i = true → i < N ∧ ¬ bd i = 0) (hk : k < N) : (!decide (zni cf (nI k) 9 = 0)) = bt cl k := by
  rw [zat g h (clb_bv hb) hk]
  unfold clb
  cases hc : bt cl k with
  | true => rw [if_pos rfl, decide_eq_false (hcl k hc).2]; rfl
  | false => rw [if_neg (by decide), decide_eq_true rfl]; rfl
/-- the cells from k on have fields of their numbers' size -/
def mSL (rw co : Int32) (bd : Nat → Int32) (N j : Nat) : Bool := mslv rw co bd (mlk rw co bd (fun _ => 0)) N j
theorem mSL_k (g : gok rw co r c N) (h : FB N f bd) (hb : bv N bd) (hk : k < N) : mSL rw co bd N (N - k) = ((decide (szv rw co N bd k = bd k) && !decide (szv rw co N bd k ≤ 0)) && mSL rw co bd N (N - (k + 1))) := by
  have hN := (gN g).2
  unfold mSL
  obtain ⟨j, hj⟩ : ∃ j, N - k = j + 1 := ⟨N - k - 1, by omega⟩
  rw [hj, mslv, show N - (j + 1) = k by omega, show N - (k + 1) = j by omega]
  congr 1
  rcases val_or hb hk with e | ⟨v, h1, hv, e⟩
  · rw [szv_0 e, e, decide_eq_false (p := (0 : Int32) < 0) (by decide), Bool.false_and]; decide
  · have z := cn_12 (gw rw co (f v) (zbit (nI k)))
    rw [szv_v g h h1 hv e, e, mfo_gw g h hk hv e, mcn_cn hN (gw_sm g (one_sm g hk)) 12 (by decide)]
    rw [decide_eq_true (p := (0 : Int32) < nI v) (pos_nI h1 hv), Bool.true_and]
    show decide (nI (fsz rw co f v k) = nI v) = (decide (nI (fsz rw co f v k) = nI v) && !decide (nI (fsz rw co f v k) ≤ 0))
    by_cases q : nI (fsz rw co f v k) = nI v
    · rw [q, decide_eq_true rfl, decide_eq_false (Int32.not_le.mpr (pos_nI h1 hv))]; rfl
    · rw [decide_eq_false q]; rfl
theorem zsolved (g : gok rw co r c N) (h : FB N f bd) (hb : bv N bd) (hs : SND rw co f) : (decide (f 0 = 0) && zso co (zac rw co) (zfc co r) (zlc co (zfc co r)) f 9) = mSL rw co bd N N := solved_eq g h hb hs
theorem mSL_full (g : gok rw co r c N) (h : FB N f bd) (hb : bv N bd) (hs : SND rw co f) (hS : mSL rw co bd N N = true) : FUL N bd := by
  rw [← zsolved g h hb hs, Bool.and_eq_true, decide_eq_true_eq] at hS
  intro i hi h0
  have : bt (f 0) i = true := (FB_0 h (gN g).2).mpr ⟨hi, h0⟩
  rw [hS.1, bt_0] at this
  exact absurd this (by decide)
theorem mall0_full (g : gok rw co r c N) {gf : Nat → Int32} (hF : FUL N bd) : mall0 rw co bd gf = [bd] := by
  unfold mall0
  rw [gmN g, mopn_opF]
  have : ∀ k, opF bd N k = [] ∨ ¬ k ≤ N := by
    intro k
    induction k with
    | zero => exact Or.inl rfl
    | succ k ih =>
      by_cases hk : k + 1 ≤ N
      · left
        rw [opF, if_neg (hF _ (by omega))]
        exact ih.resolve_right (by omega)
      · exact Or.inr hk
  rw [(this N).resolve_right (by omega)]
  rfl
theorem msR_1 {L : List (Nat → Int32)} (h : L.length = 1) : msR 5 L = 1 := by
  unfold msR
  rw [h, if_pos (by decide)]; rfl
theorem zcs_full (g : gok rw co r c N) (h : FB N f bd) (hb : bv N bd) (hs : SND rw co f) (hF : FUL N bd) : zcs co (zac rw co) (zfc co r) (zlc co (zfc co r)) f 0 5 = 1 := by
  rw [zcs_eq g (gf := fun _ => 0) (fun _ _ => rfl) h hb hs, mall0_full g hF]
  exact msR_1 rfl
end
