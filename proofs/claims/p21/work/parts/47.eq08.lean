/-! counts of solutions, boards made of a seed -/
theorem zcs_eq {rw co : Int32} {r c N : Nat} (g : gok rw co r c N) {gf : Nat → Int32} (hg : ∀ i, i < N → gf i = 0) {f bd : Nat → Int32} (h : FB N f bd) (hb : bv N bd) (hs : SND rw co f) (most : Int32) : zcs co (zac rw co) (zfc co r) (zlc co (zfc co r)) f 0 most = msR most (mall0 rw co bd gf) := by
  have hN := (gN g).2
  have e := FA_len _ _ (zsl_FA g hg N (Nat.le_refl _) f bd h hb hs (fun i hi => by omega))
  unfold zcs mall0 msR
  rw [show (bc (zac rw co)).toNatClampNeg = N from gzN g, cl_0, Nat.sub_zero, e, gmN g, mopn_opF]
/-- a number taken away leaves the board sound -/
theorem SND_off {rw co : Int32} {r c N : Nat} (g : gok rw co r c N) {f bd : Nat → Int32} (h : FB N f bd) (hs : SND rw co f) {k : Nat} (hk : k < N) : SND rw co (zwr f (nI k) 0) := by
  have hN := (gN g).2
  have h' : FB N (zwr f (nI k) 0) (upd bd k 0) := by rw [← nI_0]; exact zwr_FB h hN hk (by decide)
  intro m h1 h2 j hj
  have hj' := (FB_iff h' hN h2).mp hj
  have hjk : ¬ j = k := by
    intro e; subst e
    rw [show upd bd j 0 j = 0 by simp [upd], ← nI_0] at hj'
    have := nI_inj (by omega) (by omega) hj'.2; omega
  have ej : upd bd k 0 j = bd j := by unfold upd; rw [if_neg hjk]
  rw [ej] at hj'
  have hz := hs m h1 h2 j ((FB_iff h hN h2).mpr hj')
  have hsub : ∀ i, bt (zwr f (nI k) 0 m) i = true → bt (f m) i = true := by
    intro i hi
    have hi := (FB_iff h' hN h2).mp hi
    have hik : ¬ i = k := by
      intro e; subst e
      rw [show upd bd i 0 i = 0 by simp [upd], ← nI_0] at hi
      have := nI_inj (by omega) (by omega) hi.2; omega
    rw [show upd bd k 0 i = bd i by unfold upd; rw [if_neg hik]] at hi
    exact (FB_iff h hN h2).mpr hi
  have hsup : ∀ i, bt (f m ||| f 0) i = true → bt (zwr f (nI k) 0 m ||| zwr f (nI k) 0 0) i = true := by
    intro i hi
    rw [bt_or, Bool.or_eq_true] at hi ⊢
    by_cases hik : i = k
    · subst hik
      right
      rw [FB_0 h' hN]
      exact ⟨hk, by simp [upd]⟩
    · have ei : upd bd k 0 i = bd i := by unfold upd; rw [if_neg hik]
      rcases hi with hi | hi
      · left
        rw [FB_iff h' hN h2, ei]
        exact (FB_iff h hN h2).mp hi
      · right
        rw [FB_0 h' hN, ei]
        exact (FB_0 h hN).mp hi
  refine ⟨Nat.le_trans (cn_mono (gw_mono g (one_sm g hj'.1) hsub) 12) hz.1, Nat.le_trans hz.2 (cn_mono (gw_mono g (one_sm g hj'.1) hsup) 12)⟩
theorem zwr_off {N : Nat} {f bd : Nat → Int32} (h : FB N f bd) (hN : N ≤ 12) {k : Nat} (hk : k < N) : FB N (zwr f (nI k) 0) (upd bd k 0) := by rw [← nI_0]; exact zwr_FB h hN hk (by decide)
theorem bv_off {N : Nat} {bd : Nat → Int32} (h : bv N bd) {k : Nat} : bv N (upd bd k 0) := by rw [← nI_0]; exact bv_upd h (by decide)
theorem zng_nI {d : Nat} (hd : d < 9) : ∀ t, t < 9 → zng (nI (d + 1)) t = nI ((d + t) % 9 + 1)
  | 0, _ => by rw [zng, show (d + 0) % 9 = d by omega]
  | t + 1, ht => by
    rw [zng, zng_nI hd t (by omega), show (9 : Int32) = nI 9 from rfl]
    by_cases h : (d + t) % 9 + 1 = 9
    · rw [h, if_pos rfl, show (d + (t + 1)) % 9 = 0 by omega, Nat.zero_add]; rfl
    · rw [if_neg (fun z => h (nI_inj (by omega) (by omega) z)), nI_1, show (d + (t + 1)) % 9 = (d + t) % 9 + 1 by omega]
theorem zfl_FA {rw co : Int32} {r c N : Nat} (g : gok rw co r c N) {gf fnf : Nat → Int32} {d : Nat → Nat} (hd : ∀ i, i < N → d i < 9 ∧ gf i = nI (d i) ∧ fnf i = nI (d i + 1)) : ∀ (k : Nat), k ≤ N → ∀ (f bd : Nat → Int32), FB N f bd → bv N bd → SND rw co f → (∀ i, i < N → (bd i = 0 ↔ N - k ≤ i)) → FA N (zfl co (zac rw co) (zfc co r) (zlc co (zfc co r)) fnf N k f) (msl rw co gf (opF bd N k) bd)
  | 0, _, f, bd, h, hb, hs, _ => ⟨⟨h, hb⟩, trivial⟩
  | k + 1, hk, f, bd, h, hb, hs, he => by
    have hN := (gN g).2
    have hnum : ∀ i t, i < N → t < 9 → mnum gf i t = nI ((d i + t) % 9 + 1) := fun i t hi ht => mnum_eq (hd i hi).2.1 (hd i hi).1 ht
    have hn : ∀ i t, i < N → t < 9 → n9 (mnum gf i t) := fun i t hi ht => ⟨(d i + t) % 9 + 1, by omega, by omega, hnum i t hi ht⟩
    have hc : N - (k + 1) < N := by omega
    have h0 : bd (N - (k + 1)) = 0 := (he _ hc).mpr (Nat.le_refl _)
    rw [zfl, opF, if_pos h0, msl]
    refine FA_cat 9 (Nat.le_refl _) (fun t ht => ?_)
    rw [hnum _ t hc ht, (hd _ hc).2.2, zng_nI (hd _ hc).1 t ht]
    have hv : (d (N - (k + 1)) + t) % 9 + 1 < 10 := by omega
    have hop : opF (upd bd (N - (k + 1)) (nI ((d (N - (k + 1)) + t) % 9 + 1))) N k = opF bd N k := opF_congr k (by omega) (fun i h1 h2 => by unfold upd; rw [if_neg (by omega)])
    refine one_num g hn h hb hs hc (by omega) hv (fun i hi => ((opF_mem k (by omega) i).mp hi).2.1) (fun i hi hz => ?_) (fun hs2 => ?_)
    · obtain ⟨h1, h2⟩ := upd_ne0 (by omega) hv hz
      have := (he i hi).mp h2
      exact (opF_mem k (by omega) i).mpr ⟨by omega, hi, h2⟩
    · rw [← hop]
      refine zfl_FA g hd k (by omega) _ _ (zwr_FB h hN hc hv) (bv_upd hb hv) hs2 (fun i hi => ?_)
      by_cases e : i = N - (k + 1)
      · subst e
        constructor
        · intro z; exact absurd rfl (upd_ne0 (by omega) hv z).1
        · intro z; omega
      · rw [show upd bd (N - (k + 1)) (nI ((d (N - (k + 1)) + t) % 9 + 1)) i = bd i by unfold upd; rw [if_neg e], he i hi]
        omega
theorem znb_lN {a b : Nat} (ha : a < 2 ^ 31) (h0 : 0 < b) (hb : b < 2 ^ 31) : znb (lN a) (nI b) = nI (a / 65536 % b) := by
  have h3 : (0 : Int32) < nI b := by rw [← nI_0]; exact (nI_ltI (by decide) hb).mpr h0
  unfold znb zremL
  rw [if_pos h3, nI_l hb, show (65536 : Int64) = lN 65536 from rfl, pk_lDiv (by omega) (by decide) (by decide), pk_lRem (by omega) h0 (by omega), lN_i]
/-- an empty board -/
theorem FB_zem {rw co : Int32} {r c N : Nat} (g : gok rw co r c N) (f : Nat → Int32) {b : Nat → Int32} (hb : ∀ i, i < N → b i = 0) : FB N (zem f (zac rw co)) b := by
  intro j hj i hi
  unfold zem
  rw [if_pos hj]
  by_cases h0 : j = 0
  · subst h0
    rw [if_pos rfl, gac g hi, nI_0]
    by_cases hiN : i < N
    · simp [hiN, hb i hiN]
    · simp [hiN]
  · rw [if_neg h0, bt_0]
    symm
    apply decide_eq_false
    rintro ⟨h1, h2⟩
    rw [hb i h1, ← nI_0] at h2
    have := nI_inj (by omega) (by omega) h2; omega
theorem bv_blank {N : Nat} {b : Nat → Int32} (hb : ∀ i, i < N → b i = 0) : bv N b := fun i hi => ⟨0, by decide, by rw [hb i hi, nI_0]⟩
theorem SND_blank {rw co : Int32} {N : Nat} (hN : N ≤ 12) {f b : Nat → Int32} (h : FB N f b) (hb : ∀ i, i < N → b i = 0) : SND rw co f := by
  intro v h1 h2 k hk
  have := (FB_iff h hN h2).mp hk
  rw [hb k this.1, ← nI_0] at this
  have := nI_inj (by omega) (by omega) this.2; omega
theorem FA_head {N : Nat} : ∀ (F B : List (Nat → Int32)), FA N F B → ∀ f b, FB N f b ∧ bv N b → FB N (F.head?.getD f) (if 1 ≤ B.length then B.getD 0 b else b) ∧ bv N (if 1 ≤ B.length then B.getD 0 b else b)
  | [], [], _, f, b, h => h
  | _ :: F, _ :: B, h, f, b, _ => by
    rw [if_pos (by simp)]
    exact h.1
  | [], _ :: _, h, _, _, _ => h.elim
  | _ :: _, [], h, _, _, _ => h.elim
/-- the solved board that make starts from -/
theorem make_first {rw co : Int32} {r c N : Nat} (g : gok rw co r c N) {bd gf fnf cf : Nat → Int32} {n : Nat} (hn : n < 2 ^ 31) : FB N (zsbf co (zac rw co) (zfc co r) (zlc co (zfc co r)) (zem cf (zac rw co)) fnf (nI n).toInt64) (mmks rw co bd gf (nI n)) ∧ bv N (mmks rw co bd gf (nI n)) := by
  have hN := (gN g).2
  have hbl : ∀ i, i < N → mmk1 rw co bd i = 0 := fun i hi => by unfold mmk1; rw [gmN g, if_pos hi]
  have hF := FB_zem g cf hbl
  have hz := zfl_FA g (gf := mmkg rw co gf (nI n)) (fnf := zsbn (zac rw co) fnf (nI n).toInt64) (d := fun i => ndr n (i + 1) / 65536 % 9) (fun i hi => by
    have h1 := ndr_lt hn (i + 1)
    refine ⟨Nat.mod_lt _ (by decide), ?_, ?_⟩
    · unfold mmkg
      rw [gmN g, if_pos hi, nI_l hn, show (9 : Int32) = nI 9 from rfl, mz_draw hn (i + 1) (by decide) (by decide)]
    · unfold zsbn
      rw [gzN g, if_pos hi, nI_l hn, mdst_lN hn, show (9 : Int32) = nI 9 from rfl, znb_lN h1 (by decide) (by decide), nI_1]) N (Nat.le_refl _) _ _ hF (bv_blank hbl) (SND_blank hN hF hbl) (fun i hi => ⟨fun _ => by omega, fun _ => hbl i hi⟩)
  have := FA_head _ _ hz (zem cf (zac rw co)) (mmk1 rw co bd) ⟨hF, bv_blank hbl⟩
  unfold zsbf zsf mmks msB mall0
  rw [show (bc (zac rw co)).toNatClampNeg = N from gzN g, cl_0, Nat.sub_zero, gmN g, mopn_opF]
  have e1 : (1 : Int32).toNatClampNeg = 1 := by decide
  rw [e1, Nat.sub_self]
  have e2 : (¬ (1 : Int32) = 0) = True := by simp
  simp only [e2, true_and]
  exact this
