/-! lay, undo, fill -/
theorem ne_of_eq1 {x : Nat} (h : x = 1) : ¬ x = 0 := by omega
theorem mok_bv {rw co : Int32} {bd : Nat → Int32} (h : mok rw co bd) : bv 12 bd := fun k hk => vp_10 (h.2 k hk)
theorem mok_mtks {rw co : Int32} {gf : Nat → Int32} {st : Int64} {q : (Nat → Int32) × Int32} (h : mok rw co q.1) : ∀ k, mok rw co (mtks rw co gf st q k).1
  | 0 => h
  | k + 1 => by
    rw [mtks]
    unfold mtk
    split
    · exact mok_upd (mok_mtks h k) vp_0_10
    · exact mok_mtks h k
theorem blank_all {rw co : Int32} {r c N : Nat} (g : gok rw co r c N) (f f2 bd : Nat → Int32) (hz : ∀ i, i < 12 → bd i = 0) (lgf lf : Nat → Int32) : RB rw co r c N (zcp f (zem f2 (zac rw co))) (zem f2 (zac rw co)) bd 0 ∧ RB rw co r c N (zem f2 (zac rw co)) (zem f2 (zac rw co)) bd 0 ∧ RL_ N (zcp f (zem f2 (zac rw co))) bd 0 lgf lf 0 ∧ RL_ N (zem f2 (zac rw co)) bd 0 lgf lf 0 := by
  have hN := (gN g).2
  have hz' : ∀ i, i < N → bd i = 0 := fun i hi => hz i (by omega)
  have h1 := FB_zem g f2 hz'
  have h2 := FB_zcp (f := f) h1
  have hb := bv_blank hz
  have hc : ∀ i, bt 0 i = true ↔ i < N ∧ ¬ bd i = 0 := fun i => by
    rw [bt_0]
    exact ⟨fun z => absurd z (by decide), fun z => absurd (hz' i z.1) z.2⟩
  exact ⟨RB_new g h2 h1 hb (SND_blank hN h2 hz') hc, RB_new g h1 h1 hb (SND_blank hN h1 hz') hc, RL_new g h2 hc, RL_new g h1 hc⟩
theorem RL_lok {N : Nat} (hN : N ≤ 12) {bf bd : Nat → Int32} {cl : Int32} {lgf lf : Nat → Int32} {n : Nat} {fi : Int32} (e : fi = nI n) (h : RL_ N bf bd cl lgf lf n) : mlok lf fi := by
  refine ⟨n, by have := h.1; omega, e, fun k hk => ?_⟩
  obtain ⟨j, z1, _, z3, _⟩ := h.2.1 k hk
  rw [z3]
  exact vp_in_nI (by omega) (by omega)
theorem RL_fok {rw co : Int32} {r c N : Nat} (g : gok rw co r c N) {bf bd : Nat → Int32} {cl : Int32} {lgf lf : Nat → Int32} {n : Nat} {fi : Int32} (e : fi = nI n) (hF : FB N bf bd) (h : RL_ N bf bd cl lgf lf n) : mfok rw co bd fi := by
  intro k hk h0
  rw [gmN g] at hk
  have := RL_lt g hF h hk h0
  have := (gN g).2
  rw [e]
  exact vp_in_nI (by omega) (by omega)
theorem zlg_nI {n : Nat} (h : n < 12) : zlg (nI n) = true := by
  unfold zlg
  rw [decide_eq_false (nI_pos (by omega)), show (12 : Int32) = nI 12 from rfl, decide_eq_false (Int32.not_le.mpr (nI_lt (b := 12) h (by decide)))]; rfl
theorem fill_or {rw co : Int32} {r c N : Nat} {bf bd : Nat → Int32} (hf : Nat → Int32) (g : gok rw co r c N) (hF : FB N bf bd) (hbN : bv N bd) (hs : SND rw co bf) (a1 a2 : Int32) :
    (zxf co (zac rw co) (zfc co r) (zlc co (zfc co r)) bf a1 a2 = 0 ∧ mflt rw co bd hf a1 a2 = 0 ∧ ∃ k v, k < N ∧ 1 ≤ v ∧ v < 10 ∧ a1 = nI k ∧ a2 = nI v ∧ mft rw co bd hf (nI k) (nI v) = true) ∨
    (∃ q, 0 < q ∧ q < 4 ∧ zxf co (zac rw co) (zfc co r) (zlc co (zfc co r)) bf a1 a2 = q ∧ mflt rw co bd hf a1 a2 = nI q) := by
  unfold zxf mflt
  rcases cellc g a1 with ⟨e1, e2, k, hk, rfl⟩ | ⟨e1, e2⟩
  · rw [if_neg (fun z : ¬ zxc (zac rw co) (nI k) = 0 => z e1), if_pos e2]
    rcases numc a2 with ⟨d1, d2, v, v1, v2, rfl⟩ | ⟨d1, d2⟩
    · rw [if_neg (fun z : ¬ zxn (nI v) = 0 => z d1), if_pos d2, zct_mft (hf := hf) g hF hbN hs hk v1 v2]
      by_cases hm : mft rw co bd hf (nI k) (nI v) = true
      · rw [if_pos hm, if_pos hm]
        exact Or.inl ⟨rfl, rfl, k, v, hk, v1, v2, rfl, rfl, hm⟩
      · rw [if_neg hm, if_neg hm]
        exact Or.inr ⟨3, by decide, by decide, rfl, rfl⟩
    · have d3 : ¬ zxn a2 = 0 := by rw [d1]; decide
      rw [if_pos d3, if_neg (show ¬ min3 a2 1 9 = true by rw [d2]; decide)]
      exact Or.inr ⟨2, by decide, by decide, d1, rfl⟩
  · have e3 := ne_of_eq1 e1
    rw [if_pos e3, if_neg (show ¬ mic rw co a1 = true by rw [e2]; decide)]
    exact Or.inr ⟨1, by decide, by decide, e1, rfl⟩
/-! clue -/
theorem mem_hit {bd lf : Nat → Int32} {i : Nat} : ∀ n, (∃ j, j < n ∧ (lf j).toNatClampNeg = i) → mem bd lf n i = 0
  | 0, ⟨_, h, _⟩ => absurd h (Nat.not_lt_zero _)
  | n + 1, ⟨j, h1, h2⟩ => by
    rw [mem]
    unfold upd
    by_cases e : i = (lf n).toNatClampNeg
    · rw [if_pos e]
    · rw [if_neg e]
      have : ¬ j = n := fun q => e (by rw [← h2, q])
      exact mem_hit n ⟨j, by omega, h2⟩
theorem mem_not {bd lf : Nat → Int32} {i : Nat} : ∀ n, (∀ j, j < n → ¬ (lf j).toNatClampNeg = i) → mem bd lf n i = bd i
  | 0, _ => rfl
  | n + 1, h => by
    rw [mem]
    unfold upd
    rw [if_neg (fun e => h n (by omega) e.symm)]
    exact mem_not n (fun j hj => h j (by omega))
theorem bv_mem {M : Nat} {bd lf : Nat → Int32} (h : bv M bd) : ∀ n, bv M (mem bd lf n)
  | 0 => h
  | n + 1 => by
    rw [mem]
    exact bv_off (bv_mem h n)
theorem mem_clb {N n : Nat} (hN : N ≤ 12) {bf bd : Nat → Int32} {cl : Int32} {lgf lf : Nat → Int32} (h : RL_ N bf bd cl lgf lf n) {i : Nat} (hi : i < N) : mem bd lf n i = clb cl bd i := by
  obtain ⟨-, l2, -, l4⟩ := h
  unfold clb
  by_cases hc : bt cl i = true
  · rw [if_pos hc]
    refine mem_not n (fun j hj e => ?_)
    obtain ⟨q, z1, _, z3, z4, _⟩ := l2 j hj
    rw [z3, nI_clamp (by omega)] at e
    exact z4 (e ▸ hc)
  · rw [if_neg hc]
    by_cases h0 : bd i = 0
    · by_cases hx : ∃ j, j < n ∧ (lf j).toNatClampNeg = i
      · exact mem_hit n hx
      · rw [mem_not n (fun j hj e => hx ⟨j, hj, e⟩)]
        exact h0
    · obtain ⟨j, z1, z2⟩ := l4 i hi h0 hc
      exact mem_hit n ⟨j, z1, by rw [z2, nI_clamp (by omega)]⟩
theorem bt_mclc {cl : Int32} {k v i : Nat} (hk : k < 32) (hv : v < 10) (hi : i < 32) : bt (mclc cl (nI k) (nI v)) i = if i = k then decide (¬ v = 0) else bt cl i := by
  unfold mclc
  by_cases h0 : v = 0
  · subst h0
    rw [if_neg (by rw [nI_0]; decide), bt_and, bt_not hi, bt_zbit _ hi, cb_nI hk]
    by_cases e : i = k
    · simp [e]
    · simp [e]
  · rw [if_pos (pos_nI (by omega) hv), bt_or, bt_zbit _ hi, cb_nI hk]
    by_cases e : i = k
    · simp [e, h0]
    · simp [e]
theorem num0 (a : Int32) : (∃ v, v < 10 ∧ a = nI v ∧ min3 a 0 9 = true ∧ ¬ (¬ a = 0 ∧ ¬ zxn a = 0)) ∨ (min3 a 0 9 = false ∧ ¬ a = 0 ∧ zxn a = 2) := by
  rcases numc a with ⟨d1, d2, v, v1, v2, rfl⟩ | ⟨d1, d2⟩
  · refine Or.inl ⟨v, v2, rfl, ?_, fun z => z.2 d1⟩
    unfold min3
    rw [decide_eq_true (show (0 : Int32) ≤ nI v from Int32.le_of_lt (pos_nI v1 v2)), decide_eq_true (show nI v ≤ (9 : Int32) from (nI_leI (a := v) (b := 9) (by omega) (by decide)).mpr (by omega))]
    rfl
  · by_cases h0 : a = 0
    · subst h0
      exact Or.inl ⟨0, by decide, nI_0.symm, by decide, fun z => z.1 rfl⟩
    · refine Or.inr ⟨?_, h0, d1⟩
      cases hq : min3 a 0 9
      · rfl
      · obtain ⟨k, k1, k2, rfl⟩ := min3_in (a := 0) (b := 9) (by decide) (by decide) hq
        have hk : ¬ k = 0 := fun e => h0 (by rw [e, nI_0])
        unfold min3 at d2
        rw [decide_eq_true (show (1 : Int32) ≤ nI k from (nI_leI (a := 1) (b := k) (by decide) (by omega)).mpr (by omega)), decide_eq_true (show nI k ≤ (9 : Int32) from (nI_leI (a := k) (b := 9) (by omega) (by decide)).mpr (by omega))] at d2
        exact absurd d2 (by decide)
section
variable {rw co : Int32} {r c N n : Nat} {bf cf bd : Nat → Int32} {cl : Int32} {lgf lf : Nat → Int32}
theorem mrs_at (g : gok rw co r c N) (hcl : ∀ i, bt cl i = true → i < N ∧ ¬ bd i = 0) {k v : Nat} (hk : k < N) {i : Nat} (hi : i < N) : upd (clb cl bd) k (nI v) i = mrs rw co bd cl (nI k) (nI v) i := by
  have hN := (gN g).2
  have hsm : sm N cl := fun i h1 _ => by
    cases hq : bt cl i
    · rfl
    · have := (hcl i hq).1; omega
  unfold mrs upd
  rw [gmN g, if_pos hi]
  by_cases e : i = k
  · rw [if_pos e, if_pos (by rw [e])]
  · rw [if_neg e, if_neg (fun z => e (nI_inj (by omega) (by omega) z)), mhas_bt hN hsm (by omega)]
    rfl
theorem clue_step (hB : RB rw co r c N bf cf bd cl) (hL : RL_ N bf bd cl lgf lf n) {k v : Nat} (hk : k < N) (hv : v < 10) (hS : SND rw co (zwr cf (nI k) (nI v))) :
    RB rw co r c N (zcp bf (zwr cf (nI k) (nI v))) (zwr cf (nI k) (nI v)) (upd (mem bd lf n) k (nI v)) (mclc cl (nI k) (nI v)) ∧ RL_ N (zcp bf (zwr cf (nI k) (nI v))) (upd (mem bd lf n) k (nI v)) (mclc cl (nI k) (nI v)) lgf lf 0 := by
  obtain ⟨g, hF, hC, hb, hs, hsc, hcl⟩ := id hB
  have hN := (gN g).2
  have hC' := zwr_FB hC hN hk hv
  have e1 : ∀ i, i < N → upd (clb cl bd) k (nI v) i = upd (mem bd lf n) k (nI v) i := by
    intro i hi
    unfold upd
    rw [mem_clb hN hL hi]
  have hD := FB_congr hC' e1
  have hb' : bv 12 (upd (mem bd lf n) k (nI v)) := bv_upd (bv_mem hb n) hv
  have hD2 := FB_zcp (f := bf) hD
  have hc : ∀ i, bt (mclc cl (nI k) (nI v)) i = true ↔ i < N ∧ ¬ upd (mem bd lf n) k (nI v) i = 0 := by
    intro i
    by_cases h32 : i < 32
    · rw [bt_mclc (by omega) hv h32]
      by_cases e : i = k
      · subst e
        rw [if_pos rfl, decide_eq_true_eq, show upd (mem bd lf n) i (nI v) i = nI v by simp [upd]]
        constructor
        · intro z; exact ⟨hk, nI_ne0 (by omega) (by omega)⟩
        · rintro ⟨_, z⟩ q; exact z (by rw [q, nI_0])
      · rw [if_neg e]
        constructor
        · intro z
          obtain ⟨z1, z2⟩ := hcl i z
          refine ⟨z1, ?_⟩
          rw [← e1 i z1]
          unfold upd clb
          rw [if_neg e, if_pos z]
          exact z2
        · rintro ⟨z1, z2⟩
          rw [← e1 i z1] at z2
          unfold upd clb at z2
          rw [if_neg e] at z2
          by_cases hq : bt cl i = true
          · exact hq
          · rw [if_neg hq] at z2; exact absurd rfl z2
    · rw [bt_hi _ (by omega)]
      exact ⟨fun z => absurd z (by decide), fun z => by omega⟩
  exact ⟨RB_new g hD2 hD hb' (SND_congr g hD hD2 (bv_le hN hb') hS) hc, RL_new g hD2 hc⟩
theorem clue_or (hf : Nat → Int32) (hB : RB rw co r c N bf cf bd cl) (a1 a2 : Int32) :
    (zxu co (zac rw co) (zfc co r) (zlc co (zfc co r)) cf (zac rw co) a1 a2 = 0 ∧ mclt rw co bd hf cl a1 a2 = 0 ∧ ∃ k v, k < N ∧ v < 10 ∧ a1 = nI k ∧ a2 = nI v ∧ SND rw co (zwr cf (nI k) (nI v))) ∨
    (∃ q, 0 < q ∧ q < 4 ∧ zxu co (zac rw co) (zfc co r) (zlc co (zfc co r)) cf (zac rw co) a1 a2 = q ∧ mclt rw co bd hf cl a1 a2 = nI q ∧ RB rw co r c N bf (zcu co (zac rw co) (zfc co r) (zlc co (zfc co r)) cf (zac rw co) a1 a2) bd cl) := by
  obtain ⟨g, hF, hC, hb, hs, hsc, hcl⟩ := id hB
  have hN := (gN g).2
  have hbN := bv_le hN hb
  rcases cellc g a1 with ⟨e1, e2, k, hk, rfl⟩ | ⟨e1, e2⟩
  · rcases num0 a2 with ⟨v, hv, rfl, d1, d2⟩ | ⟨d1, d2, d3⟩
    · have hC' := zwr_FB hC hN hk hv
      have hX : zxu co (zac rw co) (zfc co r) (zlc co (zfc co r)) cf (zac rw co) (nI k) (nI v) = if zso co (zac rw co) (zfc co r) (zlc co (zfc co r)) (zwr cf (nI k) (nI v)) 9 = true then 0 else 3 := by
        unfold zxu
        rw [if_neg (fun z => z e1), if_neg d2]
      have hM : mclt rw co bd hf cl (nI k) (nI v) = if mas rw co bd hf cl (nI k) (nI v) = true then 0 else 3 := by
        unfold mclt
        rw [if_pos e2, if_pos d1]
      have hA : mas rw co bd hf cl (nI k) (nI v) = true ↔ SND rw co (zwr cf (nI k) (nI v)) :=
        mso_iff g (FB_congr hC' (fun i hi => mrs_at g hcl hk hi)) (fun i hi => by rw [← mrs_at g hcl hk hi]; exact bv_upd (clb_bv hbN) hv i hi)
      by_cases hm : zso co (zac rw co) (zfc co r) (zlc co (zfc co r)) (zwr cf (nI k) (nI v)) 9 = true
      · have hS := (zso_iff g hC').mp hm
        left
        rw [hX, hM, if_pos hm, if_pos (hA.mpr hS)]
        exact ⟨rfl, rfl, k, v, hk, hv, rfl, rfl, hS⟩
      · have hS : ¬ SND rw co (zwr cf (nI k) (nI v)) := fun z => hm ((zso_iff g hC').mpr z)
        right
        refine ⟨3, by decide, by decide, by rw [hX, if_neg hm], by rw [hM, if_neg (fun z => hS (hA.mp z))]; rfl, ?_⟩
        unfold zcu
        rw [hX, if_neg hm, if_pos rfl]
        obtain ⟨w, hw, ew⟩ := clb_bv (cl := cl) hbN k hk
        rw [zni_FB hC hN hk hw ew]
        have hC2 : FB N (zwr (zwr cf (nI k) (nI v)) (nI k) (nI w)) (upd (upd (clb cl bd) k (nI v)) k (nI w)) := zwr_FB hC' hN hk hw
        have eu : upd (upd (clb cl bd) k (nI v)) k (nI w) = clb cl bd := by rw [← ew]; exact upd_same _ _ _
        rw [eu] at hC2
        exact ⟨g, hF, hC2, hb, hs, SND_congr g hC hC2 (clb_bv hbN) hsc, hcl⟩
    · have hX : zxu co (zac rw co) (zfc co r) (zlc co (zfc co r)) cf (zac rw co) (nI k) a2 = 2 := by
        unfold zxu
        rw [if_neg (fun z => z e1), if_pos ⟨d2, by rw [d3]; decide⟩]
        exact d3
      refine Or.inr ⟨2, by decide, by decide, hX, ?_, ?_⟩
      · unfold mclt
        rw [if_pos e2, if_neg (show ¬ min3 a2 0 9 = true by rw [d1]; decide)]
        rfl
      · unfold zcu
        rw [hX, if_neg (by decide)]
        exact hB
  · have hX : zxu co (zac rw co) (zfc co r) (zlc co (zfc co r)) cf (zac rw co) a1 a2 = 1 := by
      unfold zxu
      rw [if_pos (ne_of_eq1 e1)]
      exact e1
    refine Or.inr ⟨1, by decide, by decide, hX, ?_, ?_⟩
    · unfold mclt
      rw [if_neg (show ¬ mic rw co a1 = true by rw [e2]; decide)]
      rfl
    · unfold zcu
      rw [hX, if_neg (by decide)]
      exact hB
end
/-! make -/
section
variable {rw co : Int32} {r c N n : Nat} {bf : Nat → Int32} {lgf lf : Nat → Int32}
theorem make_end (g : gok rw co r c N) {F : Nat → Int32} {q : (Nat → Int32) × Int32} (hM : MK rw co N F q) (hq : bv 12 q.1) : RB rw co r c N (zcp bf F) F q.1 q.2 ∧ RL_ N (zcp bf F) q.1 q.2 lgf lf 0 ∧ bc (zac rw co) - bc (F 0) = mcn q.2 12 := by
  have hN := (gN g).2
  obtain ⟨m1, m2, m3, m4⟩ := hM
  have m5 := FB_zcp (f := bf) m1
  have hc : ∀ i, bt q.2 i = true ↔ i < N ∧ ¬ q.1 i = 0 := by
    intro i
    by_cases h32 : i < 32
    · rw [m4 i h32, decide_eq_true_eq]
    · rw [bt_hi _ (by omega)]
      exact ⟨fun z => absurd z (by decide), fun z => by omega⟩
  have hsm : sm N q.2 := fun i h1 h2 => by rw [m4 i h2, decide_eq_false (by omega)]
  refine ⟨RB_new g m5 m1 hq (SND_congr g m1 m5 m2 m3) hc, RL_new g m5 hc, ?_⟩
  have ht := cn_two g m1 hc
  rw [gbc g, bc_cn hN (FB_sm m1 (by decide)), mcn_cn hN hsm 12 (by decide), pk_subI (by omega)]
  congr 1
  omega
end
/-! run -/
theorem enc_all : ∀ k, k < 12 → ∀ v, v < 10 → enc (some (k, nI v)) / 10 = nI k ∧ zrem (enc (some (k, nI v))) 10 = nI v ∧ ¬ enc (some (k, nI v)) = -1 := by decide +kernel
theorem mrunR_enc (o : Option (Nat × Int32)) : mrunR o true = enc o := by cases o <;> rfl
theorem runc (a : Int32) : (zxr a = 0 ∧ min3 a 0 2 = true ∧ (a = 0 ∨ a = 1 ∨ a = 2)) ∨ (¬ zxr a = 0 ∧ min3 a 0 2 = false) := by
  by_cases h : a = 0 ∨ a = 1 ∨ a = 2
  · refine Or.inl ⟨by unfold zxr; rw [if_pos h], ?_, h⟩
    rcases h with rfl | rfl | rfl <;> decide
  · refine Or.inr ⟨by unfold zxr; rw [if_neg h]; decide, ?_⟩
    cases hq : min3 a 0 2
    · rfl
    · obtain ⟨k, k1, k2, rfl⟩ := min3_in (a := 0) (b := 2) (by decide) (by decide) hq
      rcases (show k = 0 ∨ k = 1 ∨ k = 2 by omega) with rfl | rfl | rfl
      · exact absurd (Or.inl rfl) h
      · exact absurd (Or.inr (Or.inl rfl)) h
      · exact absurd (Or.inr (Or.inr rfl)) h
section
variable {rw co : Int32} {r c N : Nat} {f bd hf : Nat → Int32}
theorem mrunF_some {a : Int32} {H : Nat → Int32} {q : Nat × Int32} (hP : ∀ i, i < N → 0 < mrun1 rw co bd H a (nI i) → ∃ v, 1 ≤ v ∧ v < 10 ∧ mrun1 rw co bd H a (nI i) = nI v ∧ mft rw co bd H (nI i) (nI v) = true) : ∀ j, j ≤ N → mrunF rw co bd H a N j = some q → q.1 < N ∧ ∃ v, 1 ≤ v ∧ v < 10 ∧ q.2 = nI v ∧ mft rw co bd H (nI q.1) (nI v) = true
  | 0, _, h => by rw [mrunF] at h; cases h
  | j + 1, hj, h => by
    rw [mrunF] at h
    by_cases hc : bd (N - (j + 1)) = 0 ∧ 0 < mrun1 rw co bd H a (nI (N - (j + 1)))
    · rw [if_pos hc] at h
      obtain rfl := Option.some.inj h
      exact ⟨show N - (j + 1) < N by omega, hP _ (by omega) hc.2⟩
    · rw [if_neg hc] at h
      exact mrunF_some hP j (by omega) h
theorem run_P (g : gok rw co r c N) (h : FB N f bd) (hb : bv N bd) (hs : SND rw co f) {a : Int32} (ha : a = 0 ∨ a = 1 ∨ a = 2) : ∀ i, i < N → 0 < mrun1 rw co bd (mlk rw co bd hf) a (nI i) → ∃ v, 1 ≤ v ∧ v < 10 ∧ mrun1 rw co bd (mlk rw co bd hf) a (nI i) = nI v ∧ mft rw co bd (mlk rw co bd hf) (nI i) (nI v) = true := by
  intro i hi h0
  have hN := (gN g).2
  rcases ha with rfl | rfl | rfl
  · have e1 : mrun1 rw co bd (mlk rw co bd hf) 0 (nI i) = monr rw co bd (mlk rw co bd hf) (nI i) := by unfold mrun1; rw [if_pos rfl]
    rw [e1] at h0 ⊢
    rcases monr_or (rw := rw) (co := co) (bd := bd) (hf := mlk rw co bd hf) (k := i) (by omega) with e | ⟨_, v, h1, h2, h3, h4⟩
    · rw [e] at h0; exact absurd h0 (by decide)
    · exact ⟨v, h1, h2, h3, h4⟩
  · have e1 : mrun1 rw co bd (mlk rw co bd hf) 1 (nI i) = mshn rw co bd (mlk rw co bd hf) (nI i) N N := by unfold mrun1; rw [if_neg (by decide), if_pos rfl, gmN g]
    rw [e1] at h0 ⊢
    rcases mshn_spec (hf := hf) g h hb hs hi N (Nat.le_refl _) with ⟨k, _, h2, h3, h4, h5⟩ | ⟨h1, h2⟩
    · obtain ⟨v, v1, v2, v3, _, _, v6⟩ := id h3
      exact ⟨v, v1, v2, by rw [h5, v3], v6⟩
    · rw [h2] at h0; exact absurd h0 (by decide)
  · have e1 : mrun1 rw co bd (mlk rw co bd hf) 2 (nI i) = if mhn rw co bd (mlk rw co bd hf) (nI i) = true then 1 else 0 := by unfold mrun1; rw [if_neg (by decide), if_neg (by decide)]
    rw [e1] at h0 ⊢
    by_cases hm : mhn rw co bd (mlk rw co bd hf) (nI i) = true
    · refine ⟨1, by decide, by decide, by rw [if_pos hm]; rfl, ?_⟩
      unfold mhn at hm
      rw [Bool.and_eq_true] at hm
      exact hm.2
    · rw [if_neg hm] at h0; exact absurd h0 (by decide)
theorem zrun_eq (g : gok rw co r c N) (h : FB N f bd) (hb : bv N bd) (hs : SND rw co f) {a : Int32} (ha : a = 0 ∨ a = 1 ∨ a = 2) : zrun co (zac rw co) (zfc co r) (zlc co (zfc co r)) f a = enc (mrunF rw co bd (mlk rw co bd hf) a N N) := by
  unfold zrun
  rw [gzN g]
  rcases ha with rfl | rfl | rfl
  · rw [if_pos rfl]
    exact zf1_eq g h hb hs N (Nat.le_refl _)
  · rw [if_neg (by decide), if_pos rfl]
    exact zf2_eq g h hb hs
  · rw [if_neg (by decide), if_neg (by decide)]
    exact zf3_eq g h hb hs N (Nat.le_refl _)
end
/-! the start -/