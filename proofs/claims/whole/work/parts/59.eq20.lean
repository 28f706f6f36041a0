/-! lay, undo, fill -/
theorem mok_bv {rw co : Int32} {bd : Nat → Int32} (h : mok rw co bd) : bv 12 bd := fun k hk => vp_10 (h.2 k hk)
theorem mok_mtks {rw co : Int32} {gf : Nat → Int32} {st : Int64} {q : (Nat → Int32) × Int32} (h : mok rw co q.1) : ∀ k, mok rw co (mtks rw co gf st q k).1
  | 0 => h
  | k + 1 => by
    rw [mtks]
    unfold mtk
    split
    · exact mok_upd (mok_mtks h k) vp_0_10
    · exact mok_mtks h k
theorem blank_all {rw co : Int32} {r c N : Nat} (g : gok rw co r c N) (f f2 bd : Nat → Int32) (hz : ∀ i, i < 12 → bd i = 0) (lgf lf : Nat → Int32) : RB rw co r c N (zcp f (zem f2 (zac rw co))) (zem f2 (zac rw co)) bd 0 ∧ RB rw co r c N (zem f2 (zac rw co)) (zem f2 (zac rw co)) bd 0 ∧ RL_ N (zcp f (zem f2 (zac rw co))) bd 0 lgf lf 0 ∧ RL_ N (zem f2 (zac rw co)) bd 0 lgf lf 0 := by
  have hN := (gN g).2
  have hz' : ∀ i, i < N → bd i = 0 := fun i hi => hz i (by omega)
  have h1 := FB_zem g f2 hz'
  have h2 := FB_zcp (f := f) h1
  have hb := bv_blank hz
  have hc : ∀ i, bt 0 i = true ↔ i < N ∧ ¬ bd i = 0 := fun i => by
    rw [bt_0]
    exact ⟨fun z => absurd z (by decide), fun z => absurd (hz' i z.1) z.2⟩
  exact ⟨RB_new g h2 h1 hb (SND_blank hN h2 hz') hc, RB_new g h1 h1 hb (SND_blank hN h1 hz') hc, RL_new g h2 hc, RL_new g h1 hc⟩
theorem RL_lok {N : Nat} (hN : N ≤ 12) {bf bd : Nat → Int32} {cl : Int32} {lgf lf : Nat → Int32} {n : Nat} {fi : Int32} (e : fi = nI n) (h : RL_ N bf bd cl lgf lf n) : mlok lf fi := by
  refine ⟨n, by have := h.1; omega, e, fun k hk => ?_⟩
  obtain ⟨j, z1, _, z3, _⟩ := h.2.1 k hk
  rw [z3]
  exact vp_in_nI (by omega) (by omega)
theorem RL_fok {rw co : Int32} {r c N : Nat} (g : gok rw co r c N) {bf bd : Nat → Int32} {cl : Int32} {lgf lf : Nat → Int32} {n : Nat} {fi : Int32} (e : fi = nI n) (hF : FB N bf bd) (h : RL_ N bf bd cl lgf lf n) : mfok rw co bd fi := by
  intro k hk h0
  rw [gmN g] at hk
  have := RL_lt g hF h hk h0
  have := (gN g).2
  rw [e]
  exact vp_in_nI (by omega) (by omega)
theorem zlg_nI {n : Nat} (h : n < 12) : zlg (nI n) = true := by
  unfold zlg
  rw [decide_eq_false (nI_pos (by omega)), decide_eq_false (Int32.not_le.mpr (nI_lt (b := 12) h (by decide)))]; rfl
theorem r_lay (lgd : Int32) (ccc : Int32) (cac : Int32) (cfc : Int32) (clc : Int32) (cf : Nat → Int32) (bcc : Int32) (bac : Int32) (bfc : Int32) (blc : Int32) (bf : Nat → Int32) (lgf : Nat → Int32) (cnt : Int32) (call : Int32) (swf : Nat → Int32) (fnf : Nat → Int32) (ov : Nat → Int64) (rw : Int32) (co : Int32) (cl : Int32) (fi : Int32) (st : Int64) (th : Int32) (bd : Nat → Int32) (lf : Nat → Int32) (hf : Nat → Int32) (of : Nat → Int32) (gf : Nat → Int32) (tf : Nat → Int32) (kf : Nat → Int32) (a1 : Int32) (a2 : Int32) (h : RR lgd ccc cac cfc clc cf bcc bac bfc blc bf lgf cnt call swf fnf ov rw co cl fi st th bd lf hf of gf tf kf) : vw_lay lgd ccc cac cfc clc cf bcc bac bfc blc bf lgf cnt call swf fnf ov rw co cl fi st th bd lf hf of gf tf kf a1 a2 RR := by
  obtain ⟨r, c, N, n, hB, ⟨⟨rfl, rfl, rfl, rfl⟩, rfl, rfl, rfl, rfl⟩, hL, hg⟩ := id h
  obtain ⟨g, hF, hC, hb, hs, hsc, hcl⟩ := id hB
  have hN := (gN g).2
  have hbN := bv_le hN hb
  unfold vw_lay
  rintro r_s _ _ _ _ _ _ _ _ _ _ _ ov_s ⟨p0, p1⟩
  intro y hy
  by_cases hm : min3 a1 2 4 = true ∧ min3 a2 2 4 = true ∧ a1 * a2 ≤ 12
  · have e1 : zxl a1 a2 = 0 := by unfold zxl; rw [if_pos hm]
    have e2 : mlyc a1 a2 = true := by unfold mlyc; rw [hm.1, hm.2.1, decide_eq_true hm.2.2]; rfl
    obtain ⟨rfl, rfl, rfl, rfl, rfl, rfl, rfl, rfl, rfl, rfl, rfl, rfl, rfl⟩ := p0 e1
    obtain ⟨q1, u1, u2, rfl⟩ := min3_in (a := 2) (b := 4) (by decide) (by decide) hm.1
    obtain ⟨q2, u3, u4, rfl⟩ := min3_in (a := 2) (b := 4) (by decide) (by decide) hm.2.1
    have hle : q1 * q2 ≤ 12 := by
      have h3 := hm.2.2
      have hu : q1 * q2 ≤ 4 * 4 := Nat.mul_le_mul u2 u4
      rw [show nI q1 * nI q2 = nI (q1 * q2) from (Int32.ofNat_mul q1 q2).symm] at h3
      exact k_le (a := q1 * q2) (b := 12) (by omega) (by decide) h3
    have g' : gok (nI q1) (nI q2) q1 q2 (q1 * q2) := ⟨rfl, rfl, u1, u2, u3, u4, rfl, hle⟩
    have eq1 : (nI q1).toNatClampNeg = q1 := nI_clamp (by omega)
    simp only [e2, eq_self, if_true, if_false] at hy ⊢
    refine qry rfl (fun _ => by rw [updL_0, hy, gbc g', gmul g']) ?_
    obtain ⟨b1, _, b3, _⟩ := blank_all g' bf cf (mz12 bd) (fun i hi => by unfold mz12; rw [if_pos hi]) lgf lf
    exact ⟨q1, q2, q1 * q2, 0, b1, ⟨⟨rfl, rfl, by rw [eq1], by rw [eq1]⟩, rfl, rfl, by rw [eq1], by rw [eq1]⟩, ⟨rfl, nI_0.symm, b3⟩, hg⟩
  · have e1 : ¬ zxl a1 a2 = 0 := by unfold zxl; rw [if_neg hm]; decide
    have e2 : mlyc a1 a2 = false := by
      cases hq : mlyc a1 a2
      · rfl
      · unfold mlyc at hq
        rw [Bool.and_eq_true, Bool.and_eq_true, decide_eq_true_eq] at hq
        exact absurd ⟨hq.1.1, hq.1.2, hq.2⟩ hm
    obtain ⟨rfl, rfl, rfl, rfl, rfl, rfl, rfl, rfl, rfl, rfl, rfl, rfl, rfl⟩ := p1 e1
    simp only [e2, Bool.false_eq_true, if_false]
    exact qry rfl (fun z => absurd z (by decide)) (RR_any h)
theorem r_undo (lgd : Int32) (ccc : Int32) (cac : Int32) (cfc : Int32) (clc : Int32) (cf : Nat → Int32) (bcc : Int32) (bac : Int32) (bfc : Int32) (blc : Int32) (bf : Nat → Int32) (lgf : Nat → Int32) (cnt : Int32) (call : Int32) (swf : Nat → Int32) (fnf : Nat → Int32) (ov : Nat → Int64) (rw : Int32) (co : Int32) (cl : Int32) (fi : Int32) (st : Int64) (th : Int32) (bd : Nat → Int32) (lf : Nat → Int32) (hf : Nat → Int32) (of : Nat → Int32) (gf : Nat → Int32) (tf : Nat → Int32) (kf : Nat → Int32) (h : RR lgd ccc cac cfc clc cf bcc bac bfc blc bf lgf cnt call swf fnf ov rw co cl fi st th bd lf hf of gf tf kf) : vw_undo lgd ccc cac cfc clc cf bcc bac bfc blc bf lgf cnt call swf fnf ov rw co cl fi st th bd lf hf of gf tf kf RR := by
  obtain ⟨r, c, N, n, hB, ⟨⟨rfl, rfl, rfl, rfl⟩, rfl, rfl, rfl, rfl⟩, hL, hg⟩ := id h
  obtain ⟨g, hF, hC, hb, hs, hsc, hcl⟩ := id hB
  have hN := (gN g).2
  have hbN := bv_le hN hb
  unfold vw_undo
  obtain ⟨rfl, efi, hR⟩ := hL
  subst efi
  have hn := hR.1
  rintro r_s bf_s lgd_s ov_s ⟨p0, p1⟩
  refine ⟨RL_lok hN rfl hR, ?_⟩
  intro y hy
  by_cases h0 : n = 0
  · subst h0
    have e1 : ¬ zxd (nI 0) = 0 := by decide
    obtain ⟨rfl, rfl, rfl, rfl⟩ := p1 e1
    have e2 : nI 0 = 0 := nI_0
    rw [if_pos e2, if_pos e2, if_pos e2]
    exact qry rfl (fun z => absurd z (by decide)) (RR_any h)
  · obtain ⟨n, rfl⟩ : ∃ q, n = q + 1 := ⟨n - 1, by omega⟩
    have e1 : zxd (nI (n + 1)) = 0 := by
      unfold zxd
      rw [if_neg (nI_nle (by omega) (by omega)), if_pos (nI_le (b := 12) (by omega) (by decide))]
    have e2 : ¬ nI (n + 1) = 0 := nI_ne0 (by omega) (by omega)
    have e3 : nI (n + 1) - 1 = nI n := nI_pred n
    obtain ⟨k, hk, k1, k2, b1, b2⟩ := off_step hB hR
    obtain ⟨rfl, rfl, rfl, rfl⟩ := p0 e1
    rw [e3, nI_clamp (show n < 2 ^ 31 by omega)] at hy
    rw [e3, nI_clamp (show n < 2 ^ 31 by omega), if_neg e2, if_neg e2, if_neg e2]
    rw [if_neg e2] at hy
    rw [k1, k2, nI_clamp (show k < 2 ^ 31 by omega)]
    exact qry rfl (fun _ => by rw [updL_0, hy, k2]) ⟨r, c, N, n, b1, ⟨⟨rfl, rfl, rfl, rfl⟩, rfl, rfl, rfl, rfl⟩, ⟨rfl, rfl, b2⟩, hg⟩
theorem r_fill (lgd : Int32) (ccc : Int32) (cac : Int32) (cfc : Int32) (clc : Int32) (cf : Nat → Int32) (bcc : Int32) (bac : Int32) (bfc : Int32) (blc : Int32) (bf : Nat → Int32) (lgf : Nat → Int32) (cnt : Int32) (call : Int32) (swf : Nat → Int32) (fnf : Nat → Int32) (ov : Nat → Int64) (rw : Int32) (co : Int32) (cl : Int32) (fi : Int32) (st : Int64) (th : Int32) (bd : Nat → Int32) (lf : Nat → Int32) (hf : Nat → Int32) (of : Nat → Int32) (gf : Nat → Int32) (tf : Nat → Int32) (kf : Nat → Int32) (a1 : Int32) (a2 : Int32) (h : RR lgd ccc cac cfc clc cf bcc bac bfc blc bf lgf cnt call swf fnf ov rw co cl fi st th bd lf hf of gf tf kf) : vw_fill lgd ccc cac cfc clc cf bcc bac bfc blc bf lgf cnt call swf fnf ov rw co cl fi st th bd lf hf of gf tf kf a1 a2 RR := by
  obtain ⟨r, c, N, n, hB, ⟨⟨rfl, rfl, rfl, rfl⟩, rfl, rfl, rfl, rfl⟩, hL, hg⟩ := id h
  obtain ⟨g, hF, hC, hb, hs, hsc, hcl⟩ := id hB
  have hN := (gN g).2
  have hbN := bv_le hN hb
  unfold vw_fill
  obtain ⟨rfl, efi, hR⟩ := hL
  subst efi
  refine ⟨zval_FB hN hF, ?_⟩
  rintro r_s bf_s lgf_s lgd_s ov_s ⟨p0, p1⟩
  refine ⟨⟨mok_of g hb, RL_fok g rfl hF hR⟩, ?_⟩
  intro y hy
  unfold zxf at p0 p1
  unfold mflt mfla at *
  rcases cellc g a1 with ⟨e1, e2, k, hk, rfl⟩ | ⟨e1, e2⟩
  · have e1' := fun z : ¬ zxc _ (nI k) = 0 => z e1
    rw [if_neg e1'] at p0 p1
    rcases numc a2 with ⟨d1, d2, v, v1, v2, rfl⟩ | ⟨d1, d2⟩
    · rw [if_neg (fun z => z d1)] at p0 p1
      rw [zct_mft (hf := hf) g hF hbN hs hk v1 v2] at p0 p1
      rw [if_pos e2, if_pos d2] at hy ⊢
      by_cases hm : mft _ _ bd hf (nI k) (nI v) = true
      · obtain ⟨b1, b2⟩ := fill_step hB hR hk v1 v2 hm
        have hlt := RL_lt g hF hR hk (mft_0 (by omega) hm)
        have ez := zlg_nI (n := n) (by omega)
        rw [if_pos hm] at p0
        obtain ⟨rfl, rfl, rfl, rfl, rfl⟩ := p0 rfl
        rw [if_pos hm] at hy ⊢
        rw [if_pos rfl] at hy
        rw [if_pos ez, if_pos ez, if_pos ez, if_pos rfl, if_pos rfl, if_pos rfl, if_pos rfl, nI_1, nI_clamp (show n < 2 ^ 31 by omega)]
        have ek : upd bd (nI k).toNatClampNeg (nI v) k = nI v := by rw [nI_clamp (by omega)]; simp [upd]
        refine qry rfl (fun _ => ?_) ⟨r, c, N, n + 1, by rw [nI_clamp (show k < 2 ^ 31 by omega)]; exact b1, ⟨⟨rfl, rfl, rfl, rfl⟩, rfl, rfl, rfl, rfl⟩, ⟨rfl, rfl, by rw [nI_clamp (show k < 2 ^ 31 by omega)]; exact b2⟩, hg⟩
        have hF' : FB N (zwr bf (nI k) (nI v)) (upd bd (nI k).toNatClampNeg (nI v)) := by rw [nI_clamp (show k < 2 ^ 31 by omega)]; exact b1.2.1
        rw [updL_0, hy, zfo_gw g hF' hk v1 v2 ek, mfo_gw g hF' hk v2 ek, bc_cn hN (gw_sm g (one_sm g hk)), mcn_cn hN (gw_sm g (one_sm g hk)) 12 (by decide)]
      · rw [if_neg hm] at p1
        obtain ⟨rfl, rfl, rfl, rfl, rfl⟩ := p1 (by decide)
        rw [if_neg hm]
        exact qry rfl (fun z => absurd z (by decide)) (RR_any h)
    · have d3 : ¬ zxn a2 = 0 := by rw [d1]; decide
      rw [if_pos d3] at p0 p1
      obtain ⟨rfl, rfl, rfl, rfl, rfl⟩ := p1 d3
      rw [d1, if_pos e2, if_neg (show ¬ min3 a2 1 9 = true by rw [d2]; decide)]
      exact qry rfl (fun z => absurd z (by decide)) (RR_any h)
  · have e3 := ne_of_eq1 e1
    rw [if_pos e3] at p0 p1
    obtain ⟨rfl, rfl, rfl, rfl, rfl⟩ := p1 e3
    rw [e1, if_neg (show ¬ mic _ _ a1 = true by rw [e2]; decide)]
    exact qry rfl (fun z => absurd z (by decide)) (RR_any h)
