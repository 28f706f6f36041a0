/-! make: a solved board is there for every size; the clues are taken alike -/
def bst (r c k : Nat) : Nat := if r * c ≤ 9 then r * c else if r = 3 then (if k < 8 then 8 else 4) else (if k < 9 then 9 else 3)
def bpre (r c n : Nat) : Nat → Int32 := fun k => if k < n then nI (bst r c k) else 0
theorem bpre_all {rw co : Int32} {r c N : Nat} (g : gok rw co r c N) {n : Nat} (hn : n ≤ N) : mso rw co (bpre r c n) (fun _ => 0) = true := by
  obtain ⟨rfl, rfl, _, _, _, _, rfl, _⟩ := id g
  exact gok_all (P := fun r c => ∀ n, n ≤ r * c → mso (nI r) (nI c) (bpre r c n) (fun _ => 0) = true) g (by decide +kernel) n hn
theorem bst_in {rw co : Int32} {r c N : Nat} (g : gok rw co r c N) (k : Nat) : 1 ≤ bst r c k ∧ bst r c k < 10 := by
  obtain ⟨_, _, h1, h2, h3, h4, _, _⟩ := g
  unfold bst
  have : 2 * 2 ≤ r * c := Nat.mul_le_mul h1 h3
  split
  · omega
  · split <;> split <;> omega
theorem mso_congr {rw co : Int32} {r c N : Nat} (g : gok rw co r c N) {a b : Nat → Int32} (h : ∀ i, i < N → a i = b i) (hb : bv N b) {h1 h2 : Nat → Int32} : mso rw co a h1 = mso rw co b h2 := by
  have hN := (gN g).2
  have ha : bv N a := fun i hi => by rw [h i hi]; exact hb i hi
  have hf : FB N (fob N b) a := fun j hj i hi => by
    rw [FB_fob hN b j hj i hi]
    by_cases hiN : i < N
    · rw [h i hiN]
    · simp [hiN]
  rw [Bool.eq_iff_iff, mso_iff g hf ha, mso_iff g (FB_fob hN b) hb]
theorem tcat_ne {α : Type} {g : Nat → List α} {t : Nat} (ht : t < 9) (h : ¬ g t = []) : ∀ j, j ≤ 9 → 8 - t < j → ¬ tcat g j = []
  | 0, _, h1 => absurd h1 (Nat.not_lt_zero _)
  | j + 1, hj, h1 => by
    intro e
    simp only [tcat, List.append_eq_nil_iff] at e
    by_cases e2 : t = 8 - j
    · exact h (e2 ▸ e.1)
    · exact tcat_ne ht h j (by omega) (by omega) e.2
theorem bpre_upd {r c k : Nat} {b : Nat → Int32} {N : Nat} (hk : k < N) (h1 : ∀ i, i < k → b i = nI (bst r c i)) (h2 : ∀ i, k ≤ i → i < N → b i = 0) : ∀ i, i < N → upd b k (nI (bst r c k)) i = bpre r c (k + 1) i := by
  intro i hi
  unfold upd bpre
  by_cases e : i = k
  · subst e; rw [if_pos rfl, if_pos (by omega)]
  · rw [if_neg e]
    by_cases e2 : i < k
    · rw [h1 i e2, if_pos (by omega)]
    · rw [h2 i (by omega) hi, if_neg (by omega)]
theorem bv_bpre {rw co : Int32} {r c N : Nat} (g : gok rw co r c N) (n M : Nat) : bv M (bpre r c n) := by
  intro i _
  unfold bpre
  split
  · exact ⟨_, (bst_in g i).2, rfl⟩
  · exact ⟨0, by decide, nI_0.symm⟩
theorem msl_ne {rw co : Int32} {r c N : Nat} (g : gok rw co r c N) {gf : Nat → Int32} {d : Nat → Nat} (hd : ∀ i, i < N → d i < 9 ∧ gf i = nI (d i)) : ∀ (k : Nat), k ≤ N → ∀ (b : Nat → Int32), (∀ i, i < N - k → b i = nI (bst r c i)) → (∀ i, N - k ≤ i → i < N → b i = 0) → ¬ msl rw co gf (opF b N k) b = []
  | 0, _, b, _, _ => by rw [opF, msl]; simp
  | k + 1, hk, b, h1, h2 => by
    have hN := (gN g).2
    have hc : N - (k + 1) < N := by omega
    have h0 : b (N - (k + 1)) = 0 := h2 _ (Nat.le_refl _) hc
    obtain ⟨b1, b2⟩ := bst_in g (N - (k + 1))
    rw [opF, if_pos h0, msl]
    have ht : (bst r c (N - (k + 1)) - 1 + 9 - d (N - (k + 1))) % 9 < 9 := Nat.mod_lt _ (by decide)
    have hdc := (hd _ hc).1
    have en : mnum gf (N - (k + 1)) ((bst r c (N - (k + 1)) - 1 + 9 - d (N - (k + 1))) % 9) = nI (bst r c (N - (k + 1))) := by
      rw [mnum_eq (hd _ hc).2 hdc ht]
      congr 1
      omega
    refine tcat_ne ht ?_ 9 (Nat.le_refl _) (by omega)
    have hu := bpre_upd (r := r) (c := c) hc h1 h2
    have hm : mft0 rw co b (nI (N - (k + 1))) (nI (bst r c (N - (k + 1)))) = true := by
      unfold mft0 mft
      rw [nI_clamp (by omega), decide_eq_true h0, Bool.true_and, mso_congr g hu (bv_bpre g _ _)]
      exact bpre_all g (by omega)
    rw [en, hm, if_pos rfl]
    have hop : opF (upd b (N - (k + 1)) (nI (bst r c (N - (k + 1))))) N k = opF b N k := opF_congr k (by omega) (fun i h1 h2 => by unfold upd; rw [if_neg (by omega)])
    rw [← hop]
    refine msl_ne g hd k (by omega) _ (fun i hi => ?_) (fun i hi hi2 => ?_)
    · unfold upd
      by_cases e : i = N - (k + 1)
      · rw [if_pos e, e]
      · rw [if_neg e]; exact h1 i (by omega)
    · unfold upd
      rw [if_neg (by omega)]; exact h2 i (by omega) hi2
theorem mmks_ok {rw co : Int32} {r c N : Nat} (g : gok rw co r c N) {bd gf : Nat → Int32} {n : Nat} (hn : n < 2 ^ 31) : FUL N (mmks rw co bd gf (nI n)) ∧ mso rw co (mmks rw co bd gf (nI n)) (fun _ => 0) = true := by
  have hN := (gN g).2
  have hbl : ∀ i, i < N → mmk1 rw co bd i = 0 := fun i hi => by unfold mmk1; rw [gmN g, if_pos hi]
  have hd : ∀ i, i < N → ndr n (i + 1) / 65536 % 9 < 9 ∧ mmkg rw co gf (nI n) i = nI (ndr n (i + 1) / 65536 % 9) := fun i hi => by
    refine ⟨Nat.mod_lt _ (by decide), ?_⟩
    unfold mmkg
    rw [gmN g, if_pos hi, nI_l hn, show (9 : Int32) = nI 9 from rfl, mz_draw hn (i + 1) (by decide) (by decide)]
  have hne := msl_ne g hd N (Nat.le_refl _) (mmk1 rw co bd) (fun i hi => by omega) (fun i _ hi => hbl i hi)
  have hmem : ∀ x, x ∈ msl rw co (mmkg rw co gf (nI n)) (opF (mmk1 rw co bd) N N) (mmk1 rw co bd) → FUL N x ∧ mso rw co x (fun _ => 0) = true := by
    intro x hx
    have hs : mso rw co (mmk1 rw co bd) (fun _ => 0) = true := (SND_mso g (FB_zem g (fun _ => 0) hbl) (bv_blank hbl) _).mp (SND_blank hN (FB_zem g (fun _ => 0) hbl) hbl)
    obtain ⟨_, a2, a3, _⟩ := msl_mem g (fun i t hi ht => ⟨(ndr n (i + 1) / 65536 % 9 + t) % 9 + 1, by omega, by omega, mnum_eq (hd i hi).2 (hd i hi).1 ht⟩) _ _ (fun i hi => ((opF_mem N (Nat.le_refl _) i).mp hi).2.1) (bv_blank hbl) hs (fun i hi h0 => (opF_mem N (Nat.le_refl _) i).mpr ⟨by omega, hi, h0⟩) x hx
    exact ⟨a3, a2⟩
  unfold mmks msB mall0
  rw [gmN g, mopn_opF]
  have e1 : (1 : Int32).toNatClampNeg = 1 := by decide
  rw [e1, Nat.sub_self]
  revert hne hmem
  generalize msl rw co (mmkg rw co gf (nI n)) (opF (mmk1 rw co bd) N N) (mmk1 rw co bd) = L
  intro hne hmem
  cases L with
  | nil => exact absurd rfl hne
  | cons x L =>
    rw [if_pos ⟨by decide, by simp⟩]
    exact hmem x List.mem_cons_self
theorem mhas_bt {N : Nat} (hN : N ≤ 12) {s : Int32} (hs : sm N s) {k : Nat} (hk : k < 32) : mhas s (nI k) = bt s k := by
  unfold mhas
  rw [bit_k hN hs hk]
  cases bt s k <;> decide
/-- the class's board of clues and the reference's board and mask, while clues are taken -/
def MK (rw co : Int32) (N : Nat) (f : Nat → Int32) (q : (Nat → Int32) × Int32) : Prop := FB N f q.1 ∧ bv N q.1 ∧ SND rw co f ∧ ∀ i, i < 32 → bt q.2 i = decide (i < N ∧ ¬ q.1 i = 0)
theorem MK_step {rw co : Int32} {r c N : Nat} (g : gok rw co r c N) {gf : Nat → Int32} (hg : ∀ i, i < N → gf i = 0) {f : Nat → Int32} {q : (Nat → Int32) × Int32} (h : MK rw co N f q) {k : Nat} (hk : k < N) : MK rw co N (ztk co (zac rw co) (zfc co r) (zlc co (zfc co r)) f (nI k)) (mtk rw co gf q (nI k)) := by
  have hN := (gN g).2
  obtain ⟨hF, hb, hs, hm⟩ := id h
  obtain ⟨v, hv, e⟩ := hb k hk
  have hsm : sm N q.2 := fun i h1 h2 => by rw [hm i h2, decide_eq_false (by omega)]
  unfold ztk mtk
  rw [zni_FB hF hN hk hv e, mhas_bt hN hsm (by omega), hm k (by omega), nI_clamp (by omega)]
  by_cases h0 : v = 0
  · subst h0
    rw [if_pos nI_0, if_neg (by rw [e, nI_0]; simp)]
    exact h
  · have hne : ¬ nI v = 0 := nI_ne0 (by omega) (by omega)
    rw [if_neg hne]
    have hF' := zwr_off hF hN hk
    have hb' := bv_off hb (k := k)
    have hs' := SND_off g hF hs hk
    rw [zcs_eq g hg hF' hb' hs' 2]
    by_cases h1 : msR 2 (mall0 rw co (upd q.1 k 0) gf) = 1
    · rw [if_pos h1, if_pos ⟨by rw [e]; simp [hk, hne], h1⟩]
      refine ⟨hF', hb', hs', fun i hi => ?_⟩
      rw [bt_and, bt_not hi, bt_zbit _ hi, cb_nI (by omega), hm i hi]
      show _ = decide (i < N ∧ ¬ upd q.1 k 0 i = 0)
      unfold upd
      by_cases ei : i = k
      · subst ei; simp
      · simp [ei]
    · rw [if_neg h1, if_neg (fun z => h1 z.2)]
      have hb2 : FB N (zwr (zwr f (nI k) 0) (nI k) (nI v)) (upd (upd q.1 k 0) k (nI v)) := zwr_FB hF' hN hk hv
      have eu : upd (upd q.1 k 0) k (nI v) = q.1 := by rw [← e]; exact upd_same q.1 k 0
      rw [eu] at hb2
      refine ⟨hb2, hb, ?_, hm⟩
      exact (SND_mso g hb2 hb (fun _ => 0)).mpr ((SND_mso g hF hb (fun _ => 0)).mp hs)
theorem MK_all {rw co : Int32} {r c N : Nat} (g : gok rw co r c N) {cf fnf bd gf : Nat → Int32} {n : Nat} (hn : n < 2 ^ 31) : ∀ k, k ≤ N → MK rw co N (zmkF co (zac rw co) (zfc co r) (zlc co (zfc co r)) cf fnf (nI n) k) (mtks rw co (mz12 gf) (mdst (nI n).toInt64 (mN rw co)) (mmks rw co bd gf (nI n), mall rw co) k)
  | 0, _ => by
    have hN := (gN g).2
    obtain ⟨h1, h2⟩ := make_first g (bd := bd) (gf := gf) (fnf := fnf) (cf := cf) hn
    obtain ⟨h3, h4⟩ := mmks_ok g (bd := bd) (gf := gf) hn
    refine ⟨h1, h2, (SND_mso g h1 h2 _).mpr h4, fun i hi => ?_⟩
    show bt (mall rw co) i = _
    rw [show mall rw co = zac rw co from rfl, gac g hi]
    by_cases hiN : i < N
    · simp only [hiN, true_and, decide_true]
      exact (decide_eq_true (h3 i hiN)).symm
    · simp [hiN]
  | k + 1, hk => by
    have hN := gN g
    rw [zmkF, mtks]
    have hl := ndr_lt hn (N + (k + 1))
    rw [gzN g, gbc g, gmul g, gmN g, mdst_add, nI_l hn, mz_draw hn _ (by omega) (by omega), mdst_lN hn, znb_lN hl (by omega) (by omega)]
    have ih := MK_all g (cf := cf) (fnf := fnf) (bd := bd) (gf := gf) hn k (by omega)
    rw [gmN g, nI_l hn] at ih
    exact MK_step g (fun i hi => by unfold mz12; rw [if_pos (by omega)]) ih (Nat.mod_lt _ (by omega))
