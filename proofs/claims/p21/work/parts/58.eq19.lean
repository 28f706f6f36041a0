/-! steps of the relation: a cell filled, a cell emptied, an empty board -/
theorem FB_congr {N : Nat} {f a b : Nat → Int32} (h : FB N f a) (e : ∀ i, i < N → a i = b i) : FB N f b := by
  intro j hj i hi
  rw [h j hj i hi]
  by_cases hiN : i < N
  · rw [e i hiN]
  · simp [hiN]
theorem FB_zcp {N : Nat} {f g b : Nat → Int32} (h : FB N g b) : FB N (zcp f g) b := by
  intro j hj i hi
  rw [← h j hj i hi]
  unfold zcp
  rw [if_pos hj]
theorem SND_congr {rw co : Int32} {r c N : Nat} (g : gok rw co r c N) {f f2 b : Nat → Int32} (h : FB N f b) (h2 : FB N f2 b) (hb : bv N b) (hs : SND rw co f) : SND rw co f2 := (SND_mso g h2 hb (fun _ => 0)).mpr ((SND_mso g h hb (fun _ => 0)).mp hs)
theorem cn_pos {x : Int32} {i : Nat} : ∀ n, i < n → bt x i = true → 1 ≤ cn x n
  | 0, h, _ => absurd h (Nat.not_lt_zero _)
  | n + 1, h, hb => by
    rw [cn]
    by_cases e : i = n
    · subst e; rw [if_pos hb]; omega
    · have := cn_pos n (by omega) hb; omega
theorem cn_off {x y : Int32} {k : Nat} (hx : bt x k = true) (h : ∀ i, bt y i = true ↔ bt x i = true ∧ ¬ i = k) : ∀ n, cn x n = cn y n + (if k < n then 1 else 0)
  | 0 => rfl
  | n + 1 => by
    rw [cn, cn, cn_off hx h n]
    by_cases e : n = k
    · subst e
      rw [if_pos hx, if_neg (fun z => ((h n).mp z).2 rfl), if_neg (Nat.lt_irrefl _), if_pos (by omega)]
    · by_cases hb : bt x n = true
      · rw [if_pos hb, if_pos ((h n).mpr ⟨hb, e⟩)]
        by_cases hk : k < n
        · rw [if_pos hk, if_pos (by omega)]
        · rw [if_neg hk, if_neg (by omega)]
      · rw [if_neg hb, if_neg (fun z => hb ((h n).mp z).1)]
        by_cases hk : k < n
        · rw [if_pos hk, if_pos (by omega)]
        · rw [if_neg hk, if_neg (by omega)]
theorem cn_ac {rw co : Int32} {r c N : Nat} (g : gok rw co r c N) : cn (zac rw co) 12 = N := by
  have hN := (gN g).2
  have hs : sm N (zac rw co) := fun i h1 h2 => by rw [gac g h2, decide_eq_false (by omega)]
  have := gbc g
  rw [bc_cn hN hs] at this
  exact nI_inj (cn_12 _) (by omega) this
theorem cn_two {rw co : Int32} {r c N : Nat} (g : gok rw co r c N) {f bd : Nat → Int32} {cl : Int32} (h : FB N f bd) (hc : ∀ i, bt cl i = true ↔ i < N ∧ ¬ bd i = 0) : cn (f 0) 12 + cn cl 12 = N := by
  have hN := (gN g).2
  have e := cn_split (zac rw co) (f 0) 12 (by decide)
  rw [cn_ac g] at e
  have e1 : zac rw co &&& f 0 = f 0 := by
    rw [and_sub]
    intro i hi
    have := (FB_0 h hN).mp hi
    rw [gac g (by omega), decide_eq_true this.1]
  have e2 : zac rw co &&& (f 0 ^^^ (-1)) = cl := by
    apply bt_eq
    intro i
    rw [hc i, bt_and, Bool.and_eq_true]
    by_cases hi : i < N
    · rw [gac g (by omega), decide_eq_true hi, bt_not (by omega), Bool.not_eq_true', ← Bool.not_eq_true, FB_0 h hN]
      constructor
      · rintro ⟨_, z⟩; exact ⟨hi, fun q => z ⟨hi, q⟩⟩
      · rintro ⟨_, z⟩; exact ⟨rfl, fun q => z q.2⟩
    · constructor
      · rintro ⟨z, _⟩
        by_cases h32 : i < 32
        · rw [gac g h32, decide_eq_false hi] at z; exact absurd z (by decide)
        · rw [bt_hi _ (by omega)] at z; exact absurd z (by decide)
      · rintro ⟨z, _⟩; exact absurd z hi
  rw [e1, e2] at e
  exact e.symm
theorem clb_upd {cl : Int32} {bd : Nat → Int32} {k : Nat} {x : Int32} (h : ¬ bt cl k = true) : clb cl (upd bd k x) = clb cl bd := by
  funext i
  unfold clb upd
  by_cases e : i = k
  · subst e; rw [if_neg h, if_neg h]
  · rw [if_neg e]
section
variable {rw co : Int32} {r c N n : Nat} {bf cf bd : Nat → Int32} {cl : Int32} {lgf lf : Nat → Int32}
theorem RL_lt (g : gok rw co r c N) (hF : FB N bf bd) (hL : RL_ N bf bd cl lgf lf n) {k : Nat} (hk : k < N) (h0 : bd k = 0) : n < N := by
  have hN := (gN g).2
  have := cn_pos (x := bf 0) (i := k) 12 (by omega) ((FB_0 hF hN).mpr ⟨hk, h0⟩)
  have := hL.1
  omega
theorem fill_step (hB : RB rw co r c N bf cf bd cl) (hL : RL_ N bf bd cl lgf lf n) {k v : Nat} (hk : k < N) (h1 : 1 ≤ v) (hv : v < 10) {hf : Nat → Int32} (hm : mft rw co bd hf (nI k) (nI v) = true) :
    RB rw co r c N (zwr bf (nI k) (nI v)) cf (upd bd k (nI v)) cl ∧ RL_ N (zwr bf (nI k) (nI v)) (upd bd k (nI v)) cl (upd lgf n (nI k)) (upd lf n (nI k)) (n + 1) := by
  obtain ⟨g, hF, hC, hb, hs, hsc, hcl⟩ := id hB
  have hN := (gN g).2
  have h0 := mft_0 (by omega) hm
  have hck : ¬ bt cl k = true := fun z => (hcl k z).2 h0
  have hF' := zwr_FB hF hN hk hv
  have hb' := bv_upd hb (k := k) hv
  have ek : upd bd k (nI v) k = nI v := by simp [upd]
  have en : ∀ i, ¬ i = k → upd bd k (nI v) i = bd i := fun i hi => by unfold upd; rw [if_neg hi]
  obtain ⟨l1, l2, l3, l4⟩ := hL
  refine ⟨⟨g, hF', by rw [clb_upd hck]; exact hC, hb', ?_, hsc, fun i hi => ?_⟩, ?_, fun i hi => ?_, fun i j hij hj => ?_, fun j hj hne hcj => ?_⟩
  · unfold mft at hm
    rw [nI_clamp (by omega), Bool.and_eq_true] at hm
    exact (SND_mso g hF' (bv_le hN hb') hf).mpr hm.2
  · obtain ⟨z1, z2⟩ := hcl i hi
    refine ⟨z1, ?_⟩
    rw [en i (fun e => hck (e ▸ hi))]
    exact z2
  · have := cn_off (x := bf 0) (y := zwr bf (nI k) (nI v) 0) (k := k) ((FB_0 hF hN).mpr ⟨hk, h0⟩) (fun i => by
      rw [FB_0 hF' hN, FB_0 hF hN]
      by_cases e : i = k
      · subst e
        rw [ek]
        constructor
        · rintro ⟨_, z⟩; exact absurd z (nI_ne0 h1 (by omega))
        · rintro ⟨_, z⟩; exact absurd rfl z
      · rw [en i e]
        exact ⟨fun z => ⟨z, e⟩, fun z => z.1⟩) 12
    rw [if_pos (by omega)] at this
    omega
  · by_cases e : i = n
    · subst e
      exact ⟨k, hk, by simp [upd], by simp [upd], hck, by rw [ek]; exact nI_ne0 h1 (by omega)⟩
    · obtain ⟨j, z1, z2, z3, z4, z5⟩ := l2 i (by omega)
      refine ⟨j, z1, by unfold upd; rw [if_neg e]; exact z2, by unfold upd; rw [if_neg e]; exact z3, z4, ?_⟩
      rw [en j (fun q => z5 (q ▸ h0))]
      exact z5
  · by_cases e : j = n
    · subst e
      obtain ⟨q, z1, z2, z3, z4, z5⟩ := l2 i hij
      have e1 : upd lf j (nI k) j = nI k := by simp [upd]
      have e2 : upd lf j (nI k) i = lf i := by unfold upd; rw [if_neg (by omega)]
      rw [e1, e2, z3]
      intro w
      have := nI_inj (by omega) (by omega) w
      subst this
      exact z5 h0
    · have e1 : upd lf n (nI k) j = lf j := by unfold upd; rw [if_neg e]
      have e2 : upd lf n (nI k) i = lf i := by unfold upd; rw [if_neg (by omega)]
      rw [e1, e2]
      exact l3 i j hij (by omega)
  · by_cases e : j = k
    · subst e
      exact ⟨n, by omega, by simp [upd]⟩
    · rw [en j e] at hne
      obtain ⟨i, z1, z2⟩ := l4 j hj hne hcj
      exact ⟨i, by omega, by unfold upd; rw [if_neg (by omega)]; exact z2⟩
theorem off_step (hB : RB rw co r c N bf cf bd cl) (hL : RL_ N bf bd cl lgf lf (n + 1)) : ∃ k, k < N ∧ lgf n = nI k ∧ lf n = nI k ∧ RB rw co r c N (zwr bf (nI k) 0) cf (upd bd k 0) cl ∧ RL_ N (zwr bf (nI k) 0) (upd bd k 0) cl lgf lf n := by
  obtain ⟨g, hF, hC, hb, hs, hsc, hcl⟩ := id hB
  have hN := (gN g).2
  obtain ⟨l1, l2, l3, l4⟩ := hL
  obtain ⟨k, hk, k1, k2, hck, hne⟩ := l2 n (by omega)
  have hF' := zwr_off hF hN hk
  have ek : upd bd k 0 k = 0 := by simp [upd]
  have en : ∀ i, ¬ i = k → upd bd k 0 i = bd i := fun i hi => by unfold upd; rw [if_neg hi]
  refine ⟨k, hk, k1, k2, ⟨g, hF', by rw [clb_upd hck]; exact hC, bv_off hb, SND_off g hF hs hk, hsc, fun i hi => ?_⟩, ?_, fun i hi => ?_, fun i j hij hj => l3 i j hij (by omega), fun j hj hnj hcj => ?_⟩
  · obtain ⟨z1, z2⟩ := hcl i hi
    refine ⟨z1, ?_⟩
    rw [en i (fun e => hck (e ▸ hi))]
    exact z2
  · have := cn_off (x := zwr bf (nI k) 0 0) (y := bf 0) (k := k) ((FB_0 hF' hN).mpr ⟨hk, ek⟩) (fun i => by
      rw [FB_0 hF' hN, FB_0 hF hN]
      by_cases e : i = k
      · subst e
        constructor
        · rintro ⟨_, z⟩; exact absurd z hne
        · rintro ⟨_, z⟩; exact absurd rfl z
      · rw [en i e]
        exact ⟨fun z => ⟨z, e⟩, fun z => z.1⟩) 12
    rw [if_pos (by omega)] at this
    omega
  · obtain ⟨j, z1, z2, z3, z4, z5⟩ := l2 i (by omega)
    refine ⟨j, z1, z2, z3, z4, ?_⟩
    rw [en j (fun q => ?_)]
    · exact z5
    · subst q
      exact l3 i n hi (by omega) (z3.trans k2.symm)
  · have hjk : ¬ j = k := fun e => hnj (by rw [e, ek])
    rw [en j hjk] at hnj
    obtain ⟨i, z1, z2⟩ := l4 j hj hnj hcj
    refine ⟨i, ?_, z2⟩
    apply Classical.byContradiction
    intro hge
    have : i = n := by omega
    subst this
    rw [k2] at z2
    exact hjk (nI_inj (by omega) (by omega) z2).symm
/-- nothing logged, and the clues are what is filled -/
theorem RL_new (g : gok rw co r c N) {bf bd : Nat → Int32} (h : FB N bf bd) (hc : ∀ i, bt cl i = true ↔ i < N ∧ ¬ bd i = 0) : RL_ N bf bd cl lgf lf 0 := by
  refine ⟨by rw [Nat.zero_add]; exact cn_two g h hc, fun i hi => absurd hi (Nat.not_lt_zero _), fun i j _ hj => absurd hj (Nat.not_lt_zero _), fun k hk h1 h2 => absurd ((hc k).mpr ⟨hk, h1⟩) h2⟩
theorem RB_new (g : gok rw co r c N) {bf cf bd : Nat → Int32} (h : FB N bf bd) (h2 : FB N cf bd) (hb : bv 12 bd) (hs : SND rw co bf) (hc : ∀ i, bt cl i = true ↔ i < N ∧ ¬ bd i = 0) : RB rw co r c N bf cf bd cl := by
  have hN := (gN g).2
  have e : ∀ i, i < N → bd i = clb cl bd i := by
    intro i hi
    unfold clb
    split
    · rfl
    · next h => 
      apply Classical.byContradiction
      intro q
      exact h ((hc i).mpr ⟨hi, q⟩)
  exact ⟨g, h, FB_congr h2 e, hb, hs, SND_congr g h h2 (bv_le hN hb) hs, fun i hi => (hc i).mp hi⟩
end
