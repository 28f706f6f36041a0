/-! whether a number can be put: the class looks at less than the reference, and it is enough -/
theorem gw_mono {rw co : Int32} {r c N : Nat} (g : gok rw co r c N) {w w' x : Int32} (hx : sm N x) (h : ∀ i, bt w i = true → bt w' i = true) : ∀ i, bt (gw rw co w x) i = true → bt (gw rw co w' x) i = true :=
  gw_in g hx (fun i j h1 h2 h3 => gw_shut g hx i j h1 h2 (h j h3)) (fun i hi => gw_sub hi)
theorem bt_eq {x y : Int32} (h : ∀ i, bt x i = true ↔ bt y i = true) : x = y := by
  apply bt_ext
  intro i _
  have := h i
  cases hx : bt x i <;> cases hy : bt y i <;> simp_all
/-- a field that does not come to hold the new cell stays as it was -/
theorem gw_old {rw co : Int32} {r c N : Nat} (g : gok rw co r c N) {w w' x : Int32} {a : Nat} (hx : sm N x) (hw : ∀ i, bt w i = true → bt w' i = true) (ha : ∀ i, bt w' i = true → i = a ∨ bt w i = true) (hn : ¬ bt (gw rw co w' x) a = true) : gw rw co w' x = gw rw co w x := by
  apply bt_eq
  intro i
  refine ⟨?_, gw_mono g hx hw i⟩
  refine gw_in g hx (fun j k h1 h2 h3 => ?_) (fun i hi => gw_sub hi) i
  rcases ha k h3 with rfl | h4
  · exact absurd (gw_shut g hx j k (gw_mono g hx hw j h1) h2 h3) hn
  · exact gw_shut g hx j k h1 h2 h4
def tooS (rw co : Int32) (f : Nat → Int32) (m : Nat) : Prop := ∃ k, bt (f m) k = true ∧ rsz rw co f m k < m
theorem zctL_iff {rw co : Int32} {r c N : Nat} (g : gok rw co r c N) {f bd : Nat → Int32} (h : FB N f bd) {v : Nat} (hv : v < 10) : ∀ (n : Nat) (b : Bool), n ≤ 9 → (zctL co (zac rw co) (zfc co r) (zlc co (zfc co r)) f (nI v) n b = true ↔ b = true ∧ ∀ m, 10 - n ≤ m → m < 10 → ¬ m = v → ¬ tooS rw co f m)
  | 0, b, _ => ⟨fun z => ⟨z, fun m h1 h2 => by omega⟩, fun z => z.1⟩
  | n + 1, b, hn => by
    rw [zctL]
    cases b
    · rw [if_neg (by decide)]
      exact ⟨fun z => absurd z (by decide), fun z => absurd z.1 (by decide)⟩
    · rw [if_pos rfl, zctL_iff g h hv n _ (by omega)]
      have hm : 9 - n < 10 := by omega
      have e1 : (decide (nI (9 - n) = nI v) || !zTR co (zac rw co) (zfc co r) (zlc co (zfc co r)) f (nI (9 - n))) = true ↔ (¬ 9 - n = v → ¬ tooS rw co f (9 - n)) := by
        rw [Bool.or_eq_true, decide_eq_true_eq, Bool.not_eq_true', nI_eq (by omega) (by omega), ← Bool.not_eq_true, zTR_iff g h hm]
        constructor
        · rintro (z | z) hne
          · exact absurd z hne
          · exact z
        · intro z
          by_cases e : 9 - n = v
          · exact Or.inl e
          · exact Or.inr (z e)
      rw [e1]
      constructor
      · rintro ⟨z1, z2⟩
        refine ⟨rfl, fun m h1 h2 h3 => ?_⟩
        by_cases e : m = 9 - n
        · subst e; exact z1 h3
        · exact z2 m (by omega) h2 h3
      · rintro ⟨-, z⟩
        exact ⟨fun h3 => z _ (by omega) hm h3, fun m h1 h2 h3 => z m (by omega) h2 h3⟩
theorem FB_0 {N : Nat} {f bd : Nat → Int32} (h : FB N f bd) (hN : N ≤ 12) {i : Nat} : bt (f 0) i = true ↔ i < N ∧ bd i = 0 := by
  rw [FB_iff h hN (by decide), nI_0]
/-- of the new board: the new cell's field and all rooms decide -/
theorem SND_new {rw co : Int32} {r c N : Nat} (g : gok rw co r c N) {f bd : Nat → Int32} (h : FB N f bd) (hs : SND rw co f) {k v : Nat} (hk : k < N) (h1 : 1 ≤ v) (hv : v < 10) (h0 : bd k = 0) :
    SND rw co (zwr f (nI k) (nI v)) ↔ fsz rw co (zwr f (nI k) (nI v)) v k ≤ v ∧ ∀ m, 1 ≤ m → m < 10 → ¬ tooS rw co (zwr f (nI k) (nI v)) m := by
  have hN := (gN g).2
  have h' := zwr_FB h hN hk hv
  constructor
  · intro z
    refine ⟨(z v h1 hv k ((FB_iff h' hN hv).mpr ⟨hk, by simp [upd]⟩)).1, ?_⟩
    rintro m h2 h3 ⟨j, h4, h5⟩
    have := (z m h2 h3 j h4).2
    omega
  · rintro ⟨z1, z2⟩ m h2 h3 j h4
    refine ⟨?_, Nat.le_of_not_lt fun q => z2 m h2 h3 ⟨j, h4, q⟩⟩
    have hj := (FB_iff h' hN h3).mp h4
    by_cases em : m = v
    · subst em
      have hw : ∀ i, bt (f m) i = true → bt (zwr f (nI k) (nI m) m) i = true := by
        intro i hi
        have := (FB_iff h hN h3).mp hi
        rw [FB_iff h' hN h3]
        refine ⟨this.1, ?_⟩
        unfold upd
        split
        · rfl
        · exact this.2
      have ha : ∀ i, bt (zwr f (nI k) (nI m) m) i = true → i = k ∨ bt (f m) i = true := by
        intro i hi
        have := (FB_iff h' hN h3).mp hi
        unfold upd at this
        by_cases e : i = k
        · exact Or.inl e
        · rw [if_neg e] at this
          exact Or.inr ((FB_iff h hN h3).mpr this)
      by_cases hc : bt (gw rw co (zwr f (nI k) (nI m) m) (zbit (nI j))) k = true
      · have e := gw_same g hj.1 h4 hc
        unfold fsz
        rw [← e]
        exact z1
      · unfold fsz
        rw [gw_old g (one_sm g hj.1) hw ha hc]
        have hjk : ¬ j = k := by
          intro e; subst e
          exact hc (gw_self g hj.1)
        have hf : bt (f m) j = true := by
          rcases ha j h4 with e | e
          · exact absurd e hjk
          · exact e
        exact (hs m h2 h3 j hf).1
    · have e : zwr f (nI k) (nI v) m = f m := by
        apply bt_eq
        intro i
        rw [FB_iff h' hN h3, FB_iff h hN h3]
        unfold upd
        by_cases ei : i = k
        · subst ei
          rw [if_pos rfl, h0]
          constructor
          · rintro ⟨_, z⟩; exact absurd (nI_inj (by omega) (by omega) z) (fun z => em z.symm)
          · rintro ⟨_, z⟩
            rw [← nI_0] at z
            have := nI_inj (by omega) (by omega) z; omega
        · rw [if_neg ei]
      unfold fsz
      rw [e]
      rw [e] at h4
      exact (hs m h2 h3 j h4).1
theorem zct_mft {rw co : Int32} {r c N : Nat} (g : gok rw co r c N) {f bd hf : Nat → Int32} (h : FB N f bd) (hb : bv N bd) (hs : SND rw co f) {k v : Nat} (hk : k < N) (h1 : 1 ≤ v) (hv : v < 10) :
    zct co (zac rw co) (zfc co r) (zlc co (zfc co r)) f (nI k) (nI v) = mft rw co bd hf (nI k) (nI v) := by
  have hN := (gN g).2
  have h' := zwr_FB h hN hk hv
  have hb' := bv_upd hb (k := k) hv
  unfold zct mft
  rw [nI_clamp (by omega), show (0 : Nat) = 0 from rfl, FB_has h hN (by decide) hk, nI_0]
  by_cases h0 : bd k = 0
  · rw [decide_eq_true h0, Bool.true_and, Bool.true_and]
    have ek : upd bd k (nI v) k = nI v := by simp [upd]
    rw [Bool.eq_iff_iff, mso_iff g h' hb', SND_new g h hs hk h1 hv h0, zctL_iff g h' hv 9 _ (by decide), zfo_gw g h' hk h1 hv ek, bc_cn hN (gw_sm g (one_sm g hk)), Bool.and_eq_true, decide_eq_true_eq, nI_leI (cn_12 _) (by omega), Bool.not_eq_true', ← Bool.not_eq_true, zTR_iff g h' hv]
    constructor
    · rintro ⟨⟨z1, z2⟩, z3⟩
      refine ⟨z1, fun m h2 h3 => ?_⟩
      by_cases e : m = v
      · subst e; exact z2
      · exact z3 m (by omega) h3 e
    · rintro ⟨z1, z2⟩
      exact ⟨⟨z1, z2 v h1 hv⟩, fun m h2 h3 _ => z2 m (by omega) h3⟩
  · rw [decide_eq_false h0, Bool.false_and, Bool.false_and]
