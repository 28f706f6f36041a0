/-! the solved boards of the class and of the reference, one by one -/
def FA (N : Nat) : List (Nat → Int32) → List (Nat → Int32) → Prop | [], [] => True | f :: F, b :: B => (FB N f b ∧ bv N b) ∧ FA N F B | _, _ => False
theorem FA_len {N : Nat} : ∀ (F B : List (Nat → Int32)), FA N F B → F.length = B.length
  | [], [], _ => rfl
  | _ :: F, _ :: B, h => by rw [List.length_cons, List.length_cons, FA_len F B h.2]
  | [], _ :: _, h => h.elim
  | _ :: _, [], h => h.elim
theorem FA_app {N : Nat} : ∀ (F B F2 B2 : List (Nat → Int32)), FA N F B → FA N F2 B2 → FA N (F ++ F2) (B ++ B2)
  | [], [], _, _, _, h => h
  | _ :: F, _ :: B, F2, B2, h, h2 => ⟨h.1, FA_app F B F2 B2 h.2 h2⟩
  | [], _ :: _, _, _, h, _ => h.elim
  | _ :: _, [], _, _, h, _ => h.elim
theorem FA_cat {N : Nat} {a b : Nat → List (Nat → Int32)} : ∀ j, j ≤ 9 → (∀ t, t < 9 → FA N (a t) (b t)) → FA N (tcat a j) (tcat b j)
  | 0, _, _ => trivial
  | j + 1, hj, h => FA_app _ _ _ _ (h (8 - j) (by omega)) (FA_cat j (by omega) h)
theorem FA_nil (N : Nat) : FA N [] [] := trivial
/-- the cells from N - k on that are empty -/
def opF (bd : Nat → Int32) (N : Nat) : Nat → List Nat | 0 => [] | k + 1 => if bd (N - (k + 1)) = 0 then (N - (k + 1)) :: opF bd N k else opF bd N k
theorem opF_mem {bd : Nat → Int32} {N : Nat} : ∀ k, k ≤ N → ∀ i, i ∈ opF bd N k ↔ N - k ≤ i ∧ i < N ∧ bd i = 0
  | 0, _, i => by
    constructor
    · intro h; exact absurd h List.not_mem_nil
    · intro h; omega
  | k + 1, hk, i => by
    rw [opF]
    by_cases h0 : bd (N - (k + 1)) = 0
    · rw [if_pos h0, List.mem_cons, opF_mem k (by omega)]
      constructor
      · rintro (rfl | h)
        · exact ⟨Nat.le_refl _, by omega, h0⟩
        · exact ⟨by omega, h.2⟩
      · rintro ⟨h1, h2, h3⟩
        by_cases e : i = N - (k + 1)
        · exact Or.inl e
        · exact Or.inr ⟨by omega, h2, h3⟩
    · rw [if_neg h0, opF_mem k (by omega)]
      constructor
      · rintro h; exact ⟨by omega, h.2⟩
      · rintro ⟨h1, h2, h3⟩
        refine ⟨?_, h2, h3⟩
        apply Classical.byContradiction
        intro h
        exact h0 ((show N - (k + 1) = i by omega) ▸ h3)
theorem opF_congr {a b : Nat → Int32} {N : Nat} : ∀ k, k ≤ N → (∀ i, N - k ≤ i → i < N → a i = b i) → opF a N k = opF b N k
  | 0, _, _ => rfl
  | k + 1, hk, h => by rw [opF, opF, h _ (Nat.le_refl _) (by omega), opF_congr k (by omega) (fun i h1 h2 => h i (by omega) h2)]
theorem mopn_app (bd : Nat → Int32) (N : Nat) : ∀ k, k ≤ N → mopn bd N = mopn bd (N - k) ++ opF bd N k
  | 0, _ => by rw [opF, List.append_nil, Nat.sub_zero]
  | k + 1, hk => by
    rw [mopn_app bd N k (by omega), show N - k = (N - (k + 1)) + 1 by omega, mopn, opF]
    split
    · rw [List.append_assoc]; rfl
    · rfl
theorem mopn_opF (bd : Nat → Int32) (N : Nat) : mopn bd N = opF bd N N := by
  have := mopn_app bd N N (Nat.le_refl _)
  rwa [Nat.sub_self, mopn, List.nil_append] at this
/-- numbers 1 .. 9 -/
def n9 (x : Int32) : Prop := ∃ v, 1 ≤ v ∧ v < 10 ∧ x = nI v
theorem SND_mso {rw co : Int32} {r c N : Nat} (g : gok rw co r c N) {f bd : Nat → Int32} (h : FB N f bd) (hb : bv N bd) (hf : Nat → Int32) : SND rw co f ↔ mso rw co bd hf = true := (mso_iff g h hb).symm
/-- what a solved board is -/
theorem msl_mem {rw co : Int32} {r c N : Nat} (g : gok rw co r c N) {gf : Nat → Int32} (hn : ∀ i t, i < N → t < 9 → n9 (mnum gf i t)) : ∀ (L : List Nat) (bd : Nat → Int32), (∀ i, i ∈ L → i < N) → bv N bd → mso rw co bd (fun _ => 0) = true → (∀ i, i < N → bd i = 0 → i ∈ L) → ∀ x, x ∈ msl rw co gf L bd → bv N x ∧ mso rw co x (fun _ => 0) = true ∧ FUL N x ∧ EXT N bd x
  | [], bd, _, hb, hs, hL, x, hx => by
    rw [msl, List.mem_singleton] at hx
    subst hx
    exact ⟨hb, hs, fun i hi h0 => absurd (hL i hi h0) List.not_mem_nil, fun _ _ _ => rfl⟩
  | i :: L, bd, hi, hb, hs, hL, x, hx => by
    rw [msl] at hx
    obtain ⟨t, ht, hx⟩ := mem_tcat 9 hx
    split at hx
    · next hm =>
      obtain ⟨v, h1, h2, e⟩ := hn i t (hi i List.mem_cons_self) ht
      have hiN := hi i List.mem_cons_self
      rw [e] at hx hm
      unfold mft0 mft at hm
      rw [nI_clamp (by have := (gN g).2; omega), Bool.and_eq_true, decide_eq_true_eq] at hm
      obtain ⟨a1, a2, a3, a4⟩ := msl_mem g hn L _ (fun j hj => hi j (List.mem_cons_of_mem _ hj)) (bv_upd hb h2) hm.2 (fun j hj hz => by
        unfold upd at hz
        split at hz
        · exact absurd hz (nI_ne0 h1 (by omega))
        · next hne =>
          rcases List.mem_cons.mp (hL j hj hz) with e | e
          · exact absurd e hne
          · exact e) x hx
      refine ⟨a1, a2, a3, fun j hj hz => ?_⟩
      have hne : ¬ j = i := fun e => hz (e ▸ hm.1)
      have e2 : upd bd i (nI v) j = bd j := by unfold upd; rw [if_neg hne]
      rw [a4 j hj (by rw [e2]; exact hz), e2]
    · exact absurd hx List.not_mem_nil
/-- masks of a board -/
def fob (N : Nat) (bd : Nat → Int32) : Nat → Int32 := fun j => mhv bd j N
theorem FB_fob {N : Nat} (hN : N ≤ 12) (bd : Nat → Int32) : FB N (fob N bd) bd := fun j _ i hi => bt_mhv N hN i hi
/-- one cell's numbers: what the class lets through and the reference -/
theorem one_num {rw co : Int32} {r c N : Nat} (g : gok rw co r c N) {gf : Nat → Int32} (hn : ∀ i t, i < N → t < 9 → n9 (mnum gf i t)) {f bd : Nat → Int32} (h : FB N f bd) (hb : bv N bd) (hs : SND rw co f) {k v : Nat} (hk : k < N) (h1 : 1 ≤ v) (hv : v < 10) {L : List Nat} (hL : ∀ i, i ∈ L → i < N) (hall : ∀ i, i < N → upd bd k (nI v) i = 0 → i ∈ L) {Z : List (Nat → Int32)}
    (hz : SND rw co (zwr f (nI k) (nI v)) → FA N Z (msl rw co gf L (upd bd k (nI v)))) :
    FA N (if zok1 co (zac rw co) (zfc co r) (zlc co (zfc co r)) f (nI k) (nI v) then Z else []) (if mft0 rw co bd (nI k) (nI v) then msl rw co gf L (upd bd k (nI v)) else []) := by
  have hN := (gN g).2
  have h' := zwr_FB h hN hk hv
  have hb' := bv_upd hb (k := k) hv
  unfold zok1 mft0
  rw [zct_mft g h hb hs hk h1 hv (hf := fun _ => 0)]
  by_cases hm : mft rw co bd (fun _ => 0) (nI k) (nI v) = true
  · rw [hm, Bool.and_true, if_pos rfl]
    unfold mft at hm
    rw [nI_clamp (by omega), Bool.and_eq_true, decide_eq_true_eq] at hm
    by_cases hp : zle f (nI v) 9 0 < bc (f 0)
    · rw [decide_eq_true hp, if_pos rfl]
      exact hz ((SND_mso g h' hb' _).mpr hm.2)
    · rw [decide_eq_false hp, if_neg (by decide)]
      have : msl rw co gf L (upd bd k (nI v)) = [] := by
        apply List.eq_nil_iff_forall_not_mem.mpr
        intro x hx
        obtain ⟨a1, a2, a3, a4⟩ := msl_mem g hn L _ hL hb' hm.2 hall x hx
        exact hp (prune g h hb (FB_fob hN x) a1 a3 ((SND_mso g (FB_fob hN x) a1 _).mpr a2) hk h1 hv hm.1 a4)
      rw [this]
      trivial
  · have hm : mft rw co bd (fun _ => 0) (nI k) (nI v) = false := by simpa using hm
    rw [hm, Bool.and_false, if_neg (by decide), if_neg (by decide)]
    trivial
theorem upd_ne0 {bd : Nat → Int32} {k v i : Nat} (h1 : 1 ≤ v) (hv : v < 10) (h : upd bd k (nI v) i = 0) : ¬ i = k ∧ bd i = 0 := by
  unfold upd at h
  split at h
  · exact absurd h (nI_ne0 h1 (by omega))
  · next e => exact ⟨e, h⟩
theorem zsl_FA {rw co : Int32} {r c N : Nat} (g : gok rw co r c N) {gf : Nat → Int32} (hg : ∀ i, i < N → gf i = 0) : ∀ (k : Nat), k ≤ N → ∀ (f bd : Nat → Int32), FB N f bd → bv N bd → SND rw co f → (∀ i, i < N - k → ¬ bd i = 0) → FA N (zsl co (zac rw co) (zfc co r) (zlc co (zfc co r)) N k f) (msl rw co gf (opF bd N k) bd)
  | 0, _, f, bd, h, hb, hs, _ => ⟨⟨h, hb⟩, trivial⟩
  | k + 1, hk, f, bd, h, hb, hs, hd => by
    have hN := (gN g).2
    have hnum : ∀ i t, i < N → t < 9 → mnum gf i t = nI (t + 1) := by
      intro i t hi ht
      rw [mnum_eq (g := 0) (by rw [hg i hi, nI_0]) (by decide) ht, Nat.zero_add, Nat.mod_eq_of_lt ht]
    have hn : ∀ i t, i < N → t < 9 → n9 (mnum gf i t) := fun i t hi ht => ⟨t + 1, by omega, by omega, hnum i t hi ht⟩
    have hc : N - (k + 1) < N := by omega
    obtain ⟨v, hv, e⟩ := hb _ hc
    rw [zsl, opF, zni_FB h hN hc hv e]
    by_cases h0 : bd (N - (k + 1)) = 0
    · have : nI v = 0 := by rw [← e]; exact h0
      rw [if_pos this, if_pos h0, msl]
      refine FA_cat 9 (Nat.le_refl _) (fun t ht => ?_)
      rw [hnum _ t hc ht]
      have hop : opF (upd bd (N - (k + 1)) (nI (t + 1))) N k = opF bd N k := opF_congr k (by omega) (fun i h1 h2 => by unfold upd; rw [if_neg (by omega)])
      refine one_num g hn h hb hs hc (by omega) (by omega) (fun i hi => ((opF_mem k (by omega) i).mp hi).2.1) (fun i hi hz => ?_) (fun hs2 => ?_)
      · obtain ⟨h1, h2⟩ := upd_ne0 (by omega) (by omega) hz
        refine (opF_mem k (by omega) i).mpr ⟨?_, hi, h2⟩
        apply Classical.byContradiction
        intro hlt
        exact hd i (by omega) h2
      · rw [← hop]
        refine zsl_FA g hg k (by omega) _ _ (zwr_FB h hN hc (by omega)) (bv_upd hb (by omega)) hs2 (fun i hi hz => ?_)
        obtain ⟨h1, h2⟩ := upd_ne0 (by omega) (by omega) hz
        exact hd i (by omega) h2
    · have : ¬ nI v = 0 := by rw [← e]; exact h0
      rw [if_neg this, if_neg h0]
      refine zsl_FA g hg k (by omega) f bd h hb hs (fun i hi => ?_)
      by_cases e2 : i = N - (k + 1)
      · rw [e2]; exact h0
      · exact hd i (by omega)
