/-! the relation of all components; the calls that only ask -/
def RR (lgd : Int32) (ccc : Int32) (cac : Int32) (cfc : Int32) (clc : Int32) (cf : Nat → Int32) (bcc : Int32) (bac : Int32) (bfc : Int32) (blc : Int32) (bf : Nat → Int32) (lgf : Nat → Int32) (cnt : Int32) (call : Int32) (swf : Nat → Int32) (fnf : Nat → Int32) (ov : Nat → Int64) (rw : Int32) (co : Int32) (cl : Int32) (fi : Int32) (st : Int64) (th : Int32) (bd : Nat → Int32) (lf : Nat → Int32) (hf : Nat → Int32) (of : Nat → Int32) (gf : Nat → Int32) (tf : Nat → Int32) (kf : Nat → Int32) : Prop := ∃ r c N n : Nat, RB rw co r c N bf cf bd cl ∧ ((ccc = co ∧ cac = zac rw co ∧ cfc = zfc co r ∧ clc = zlc co (zfc co r)) ∧ bcc = co ∧ bac = zac rw co ∧ bfc = zfc co r ∧ blc = zlc co (zfc co r)) ∧ (lgd = fi ∧ fi = nI n ∧ RL_ N bf bd cl lgf lf n) ∧ ∀ i, i < 12 → gf i = 0
theorem RR_any {lgd : Int32} {ccc : Int32} {cac : Int32} {cfc : Int32} {clc : Int32} {cf : Nat → Int32} {bcc : Int32} {bac : Int32} {bfc : Int32} {blc : Int32} {bf : Nat → Int32} {lgf : Nat → Int32} {cnt cnt' : Int32} {call call' : Int32} {swf swf' : Nat → Int32} {fnf fnf' : Nat → Int32} {ov ov' : Nat → Int64} {rw : Int32} {co : Int32} {cl : Int32} {fi : Int32} {st st' : Int64} {th th' : Int32} {bd : Nat → Int32} {lf : Nat → Int32} {hf hf' : Nat → Int32} {of of' : Nat → Int32} {gf : Nat → Int32} {tf tf' : Nat → Int32} {kf kf' : Nat → Int32} (h : RR lgd ccc cac cfc clc cf bcc bac bfc blc bf lgf cnt call swf fnf ov rw co cl fi st th bd lf hf of gf tf kf) : RR lgd ccc cac cfc clc cf bcc bac bfc blc bf lgf cnt' call' swf' fnf' ov' rw co cl fi st' th' bd lf hf' of' gf tf' kf' := h
theorem qry {th r_s y : Int32} {o : Int64} {J : Prop} (h1 : th = r_s) (h2 : r_s = 0 → o = y.toInt64) (hJ : J) : (th = r_s → (r_s = 0 → o = y.toInt64 ∧ J) ∧ (¬ r_s = 0 → J)) ∧ (¬ th = r_s → False) := ⟨fun _ => ⟨fun z => ⟨h2 z, hJ⟩, fun _ => hJ⟩, fun z => z h1⟩
theorem ne_of_eq1 {x : Nat} (h : x = 1) : ¬ x = 0 := by omega
theorem qryB {th r_s y : Int32} {o : Int64} {J : Prop} {b : Bool} (h1 : th = r_s) (hy : y = b2i b) (h2 : r_s = 0 → o = (b2i b).toInt64) (hJ : J) : (th = r_s → (r_s = 0 → (y = 0 → o = 0 ∧ J) ∧ (¬ y = 0 → o = 1 ∧ J)) ∧ (¬ r_s = 0 → J)) ∧ (¬ th = r_s → False) := by
  subst hy
  refine ⟨fun _ => ⟨fun z => ⟨fun z2 => ⟨?_, hJ⟩, fun z2 => ⟨?_, hJ⟩⟩, fun _ => hJ⟩, fun z => z h1⟩
  · rw [h2 z, b2i_eq0.mp z2]; rfl
  · rw [h2 z, b2i_ne0.mp z2]; rfl
theorem r_filled (lgd : Int32) (ccc : Int32) (cac : Int32) (cfc : Int32) (clc : Int32) (cf : Nat → Int32) (bcc : Int32) (bac : Int32) (bfc : Int32) (blc : Int32) (bf : Nat → Int32) (lgf : Nat → Int32) (cnt : Int32) (call : Int32) (swf : Nat → Int32) (fnf : Nat → Int32) (ov : Nat → Int64) (rw : Int32) (co : Int32) (cl : Int32) (fi : Int32) (st : Int64) (th : Int32) (bd : Nat → Int32) (lf : Nat → Int32) (hf : Nat → Int32) (of : Nat → Int32) (gf : Nat → Int32) (tf : Nat → Int32) (kf : Nat → Int32) (h : RR lgd ccc cac cfc clc cf bcc bac bfc blc bf lgf cnt call swf fnf ov rw co cl fi st th bd lf hf of gf tf kf) : vw_filled lgd ccc cac cfc clc cf bcc bac bfc blc bf lgf cnt call swf fnf ov rw co cl fi st th bd lf hf of gf tf kf RR := by
  obtain ⟨r, c, N, n, hB, ⟨⟨rfl, rfl, rfl, rfl⟩, rfl, rfl, rfl, rfl⟩, hL, hg⟩ := id h
  obtain ⟨g, hF, hC, hb, hs, hsc, hcl⟩ := id hB
  have hN := (gN g).2
  have hbN := bv_le hN hb
  unfold vw_filled
  exact ⟨fun _ => RR_any h, fun z => z hL.1⟩
theorem r_area (lgd : Int32) (ccc : Int32) (cac : Int32) (cfc : Int32) (clc : Int32) (cf : Nat → Int32) (bcc : Int32) (bac : Int32) (bfc : Int32) (blc : Int32) (bf : Nat → Int32) (lgf : Nat → Int32) (cnt : Int32) (call : Int32) (swf : Nat → Int32) (fnf : Nat → Int32) (ov : Nat → Int64) (rw : Int32) (co : Int32) (cl : Int32) (fi : Int32) (st : Int64) (th : Int32) (bd : Nat → Int32) (lf : Nat → Int32) (hf : Nat → Int32) (of : Nat → Int32) (gf : Nat → Int32) (tf : Nat → Int32) (kf : Nat → Int32) (h : RR lgd ccc cac cfc clc cf bcc bac bfc blc bf lgf cnt call swf fnf ov rw co cl fi st th bd lf hf of gf tf kf) : vw_area lgd ccc cac cfc clc cf bcc bac bfc blc bf lgf cnt call swf fnf ov rw co cl fi st th bd lf hf of gf tf kf RR := by
  obtain ⟨r, c, N, n, hB, ⟨⟨rfl, rfl, rfl, rfl⟩, rfl, rfl, rfl, rfl⟩, hL, hg⟩ := id h
  obtain ⟨g, hF, hC, hb, hs, hsc, hcl⟩ := id hB
  have hN := (gN g).2
  have hbN := bv_le hN hb
  unfold vw_area
  exact ⟨fun _ => RR_any h, fun z => z (by rw [gbc g, gmul g])⟩
theorem r_at (lgd : Int32) (ccc : Int32) (cac : Int32) (cfc : Int32) (clc : Int32) (cf : Nat → Int32) (bcc : Int32) (bac : Int32) (bfc : Int32) (blc : Int32) (bf : Nat → Int32) (lgf : Nat → Int32) (cnt : Int32) (call : Int32) (swf : Nat → Int32) (fnf : Nat → Int32) (ov : Nat → Int64) (rw : Int32) (co : Int32) (cl : Int32) (fi : Int32) (st : Int64) (th : Int32) (bd : Nat → Int32) (lf : Nat → Int32) (hf : Nat → Int32) (of : Nat → Int32) (gf : Nat → Int32) (tf : Nat → Int32) (kf : Nat → Int32) (a1 : Int32) (h : RR lgd ccc cac cfc clc cf bcc bac bfc blc bf lgf cnt call swf fnf ov rw co cl fi st th bd lf hf of gf tf kf) : vw_at lgd ccc cac cfc clc cf bcc bac bfc blc bf lgf cnt call swf fnf ov rw co cl fi st th bd lf hf of gf tf kf a1 RR := by
  obtain ⟨r, c, N, n, hB, ⟨⟨rfl, rfl, rfl, rfl⟩, rfl, rfl, rfl, rfl⟩, hL, hg⟩ := id h
  obtain ⟨g, hF, hC, hb, hs, hsc, hcl⟩ := id hB
  have hN := (gN g).2
  have hbN := bv_le hN hb
  unfold vw_at
  rintro r_s ov_s ⟨p0, p1⟩
  refine ⟨mok_of g hb, ?_⟩
  intro y hy
  rcases cellc g a1 with ⟨e1, e2, k, hk, rfl⟩ | ⟨e1, e2⟩
  · obtain ⟨v, hv, e⟩ := hbN k hk
    obtain ⟨rfl, rfl⟩ := p0 e1
    refine qry (if_pos e2) (fun _ => ?_) (RR_any h)
    rw [updL_0, hy]
    congr 1
    rw [if_pos e2, zni_FB hF hN hk hv e, nI_clamp (by omega), e]
  · obtain ⟨rfl, rfl⟩ := p1 (by rw [e1]; decide)
    exact qry (if_neg (by rw [e2]; decide)) (fun z => absurd z (by decide)) (RR_any h)
theorem r_size (lgd : Int32) (ccc : Int32) (cac : Int32) (cfc : Int32) (clc : Int32) (cf : Nat → Int32) (bcc : Int32) (bac : Int32) (bfc : Int32) (blc : Int32) (bf : Nat → Int32) (lgf : Nat → Int32) (cnt : Int32) (call : Int32) (swf : Nat → Int32) (fnf : Nat → Int32) (ov : Nat → Int64) (rw : Int32) (co : Int32) (cl : Int32) (fi : Int32) (st : Int64) (th : Int32) (bd : Nat → Int32) (lf : Nat → Int32) (hf : Nat → Int32) (of : Nat → Int32) (gf : Nat → Int32) (tf : Nat → Int32) (kf : Nat → Int32) (a1 : Int32) (h : RR lgd ccc cac cfc clc cf bcc bac bfc blc bf lgf cnt call swf fnf ov rw co cl fi st th bd lf hf of gf tf kf) : vw_size lgd ccc cac cfc clc cf bcc bac bfc blc bf lgf cnt call swf fnf ov rw co cl fi st th bd lf hf of gf tf kf a1 RR := by
  obtain ⟨r, c, N, n, hB, ⟨⟨rfl, rfl, rfl, rfl⟩, rfl, rfl, rfl, rfl⟩, hL, hg⟩ := id h
  obtain ⟨g, hF, hC, hb, hs, hsc, hcl⟩ := id hB
  have hN := (gN g).2
  have hbN := bv_le hN hb
  unfold vw_size
  rintro r_s ov_s ⟨p0, p1⟩
  refine ⟨mok_of g hb, ?_⟩
  intro y hy
  rcases cellc g a1 with ⟨e1, e2, k, hk, rfl⟩ | ⟨e1, e2⟩
  · obtain ⟨v, hv, e⟩ := hbN k hk
    obtain ⟨rfl, rfl⟩ := p0 e1
    refine qry (if_pos e2) (fun _ => ?_) (RR_any h)
    rw [updL_0, hy]
    congr 1
    rw [nI_clamp (by omega), e]
    by_cases h0 : v = 0
    · subst h0
      have e0 : bd k = 0 := by rw [e, nI_0]
      rw [if_neg (fun z => by have := z.2; rw [nI_0] at this; exact absurd this (by decide))]
      unfold zfo
      rw [zni_FB hF hN hk (by decide) e, if_pos nI_0]
      decide
    · have h1 : 1 ≤ v := by omega
      rw [if_pos ⟨e2, pos_nI h1 hv⟩]
      rw [zfo_gw g hF hk h1 hv e, mfo_gw g hF hk hv e, bc_cn hN (gw_sm g (one_sm g hk)), mcn_cn hN (gw_sm g (one_sm g hk)) 12 (by decide)]
  · obtain ⟨rfl, rfl⟩ := p1 (by rw [e1]; decide)
    exact qry (if_neg (by rw [e2]; decide)) (fun z => absurd z (by decide)) (RR_any h)
theorem r_room (lgd : Int32) (ccc : Int32) (cac : Int32) (cfc : Int32) (clc : Int32) (cf : Nat → Int32) (bcc : Int32) (bac : Int32) (bfc : Int32) (blc : Int32) (bf : Nat → Int32) (lgf : Nat → Int32) (cnt : Int32) (call : Int32) (swf : Nat → Int32) (fnf : Nat → Int32) (ov : Nat → Int64) (rw : Int32) (co : Int32) (cl : Int32) (fi : Int32) (st : Int64) (th : Int32) (bd : Nat → Int32) (lf : Nat → Int32) (hf : Nat → Int32) (of : Nat → Int32) (gf : Nat → Int32) (tf : Nat → Int32) (kf : Nat → Int32) (a1 : Int32) (h : RR lgd ccc cac cfc clc cf bcc bac bfc blc bf lgf cnt call swf fnf ov rw co cl fi st th bd lf hf of gf tf kf) : vw_room lgd ccc cac cfc clc cf bcc bac bfc blc bf lgf cnt call swf fnf ov rw co cl fi st th bd lf hf of gf tf kf a1 RR := by
  obtain ⟨r, c, N, n, hB, ⟨⟨rfl, rfl, rfl, rfl⟩, rfl, rfl, rfl, rfl⟩, hL, hg⟩ := id h
  obtain ⟨g, hF, hC, hb, hs, hsc, hcl⟩ := id hB
  have hN := (gN g).2
  have hbN := bv_le hN hb
  unfold vw_room
  rintro r_s ov_s ⟨p0, p1⟩
  refine ⟨mok_of g hb, ?_⟩
  intro y hy
  rcases cellc g a1 with ⟨e1, e2, k, hk, rfl⟩ | ⟨e1, e2⟩
  · obtain ⟨v, hv, e⟩ := hbN k hk
    obtain ⟨rfl, rfl⟩ := p0 e1
    refine qry (if_pos e2) (fun _ => ?_) (RR_any h)
    rw [updL_0, hy]
    congr 1
    rw [nI_clamp (by omega), e]
    by_cases h0 : v = 0
    · subst h0
      have e0 : bd k = 0 := by rw [e, nI_0]
      rw [if_neg (fun z => by have := z.2; rw [nI_0] at this; exact absurd this (by decide))]
      unfold zro
      rw [zni_FB hF hN hk (by decide) e, if_pos nI_0]
      decide
    · have h1 : 1 ≤ v := by omega
      rw [if_pos ⟨e2, pos_nI h1 hv⟩]
      rw [zro_gw g hF hk h1 hv e, mro_gw g hF hk hv e, bc_cn hN (gw_sm g (one_sm g hk))]
      rfl
  · obtain ⟨rfl, rfl⟩ := p1 (by rw [e1]; decide)
    exact qry (if_neg (by rw [e2]; decide)) (fun z => absurd z (by decide)) (RR_any h)
theorem r_shapes (lgd : Int32) (ccc : Int32) (cac : Int32) (cfc : Int32) (clc : Int32) (cf : Nat → Int32) (bcc : Int32) (bac : Int32) (bfc : Int32) (blc : Int32) (bf : Nat → Int32) (lgf : Nat → Int32) (cnt : Int32) (call : Int32) (swf : Nat → Int32) (fnf : Nat → Int32) (ov : Nat → Int64) (rw : Int32) (co : Int32) (cl : Int32) (fi : Int32) (st : Int64) (th : Int32) (bd : Nat → Int32) (lf : Nat → Int32) (hf : Nat → Int32) (of : Nat → Int32) (gf : Nat → Int32) (tf : Nat → Int32) (kf : Nat → Int32) (a1 : Int32) (h : RR lgd ccc cac cfc clc cf bcc bac bfc blc bf lgf cnt call swf fnf ov rw co cl fi st th bd lf hf of gf tf kf) : vw_shapes lgd ccc cac cfc clc cf bcc bac bfc blc bf lgf cnt call swf fnf ov rw co cl fi st th bd lf hf of gf tf kf a1 RR := by
  obtain ⟨r, c, N, n, hB, ⟨⟨rfl, rfl, rfl, rfl⟩, rfl, rfl, rfl, rfl⟩, hL, hg⟩ := id h
  obtain ⟨g, hF, hC, hb, hs, hsc, hcl⟩ := id hB
  have hN := (gN g).2
  have hbN := bv_le hN hb
  unfold vw_shapes
  rintro r_s _ _ _ ov_s ⟨p0, p1⟩
  refine ⟨mok_of g hb, ?_⟩
  intro y hy
  rcases cellc g a1 with ⟨e1, e2, k, hk, rfl⟩ | ⟨e1, e2⟩
  · obtain ⟨v, hv, e⟩ := hbN k hk
    obtain ⟨rfl, rfl⟩ := p0 e1
    refine qry (if_pos e2) (fun _ => ?_) (RR_any h)
    rw [updL_0, hy]
    congr 1
    rw [nI_clamp (by omega), e]
    by_cases h0 : v = 0
    · subst h0
      have e0 : bd k = 0 := by rw [e, nI_0]
      rw [if_neg (fun z => by have := z.2; rw [nI_0] at this; exact absurd this (by decide))]
      unfold zli
      rw [zni_FB hF hN hk (by decide) e, if_pos nI_0]
    · have h1 : 1 ≤ v := by omega
      rw [if_pos ⟨e2, pos_nI h1 hv⟩]
      rw [zli_1 (hf := hf) g hF hk h1 hv e]
  · obtain ⟨rfl, rfl⟩ := p1 (by rw [e1]; decide)
    exact qry (if_neg (by rw [e2]; decide)) (fun z => absurd z (by decide)) (RR_any h)
theorem r_isHidden (lgd : Int32) (ccc : Int32) (cac : Int32) (cfc : Int32) (clc : Int32) (cf : Nat → Int32) (bcc : Int32) (bac : Int32) (bfc : Int32) (blc : Int32) (bf : Nat → Int32) (lgf : Nat → Int32) (cnt : Int32) (call : Int32) (swf : Nat → Int32) (fnf : Nat → Int32) (ov : Nat → Int64) (rw : Int32) (co : Int32) (cl : Int32) (fi : Int32) (st : Int64) (th : Int32) (bd : Nat → Int32) (lf : Nat → Int32) (hf : Nat → Int32) (of : Nat → Int32) (gf : Nat → Int32) (tf : Nat → Int32) (kf : Nat → Int32) (a1 : Int32) (h : RR lgd ccc cac cfc clc cf bcc bac bfc blc bf lgf cnt call swf fnf ov rw co cl fi st th bd lf hf of gf tf kf) : vw_isHidden lgd ccc cac cfc clc cf bcc bac bfc blc bf lgf cnt call swf fnf ov rw co cl fi st th bd lf hf of gf tf kf a1 RR := by
  obtain ⟨r, c, N, n, hB, ⟨⟨rfl, rfl, rfl, rfl⟩, rfl, rfl, rfl, rfl⟩, hL, hg⟩ := id h
  obtain ⟨g, hF, hC, hb, hs, hsc, hcl⟩ := id hB
  have hN := (gN g).2
  have hbN := bv_le hN hb
  unfold vw_isHidden
  rintro r_s ov_s ⟨p0, p1⟩
  refine ⟨mok_of g hb, ?_⟩
  intro y hy
  rcases cellc g a1 with ⟨e1, e2, k, hk, rfl⟩ | ⟨e1, e2⟩
  · obtain ⟨v, hv, e⟩ := hbN k hk
    obtain ⟨rfl, rfl⟩ := p0 e1
    refine qryB (if_pos e2) hy (fun _ => ?_) (RR_any h)
    rw [updL_0, e2, Bool.true_and]
    congr 1
    rw [zhi_mhd (hf := hf) g hF hbN hk]
  · obtain ⟨rfl, rfl⟩ := p1 (by rw [e1]; decide)
    exact qryB (if_neg (by rw [e2]; decide)) hy (fun z => absurd z (by decide)) (RR_any h)
theorem r_isClue (lgd : Int32) (ccc : Int32) (cac : Int32) (cfc : Int32) (clc : Int32) (cf : Nat → Int32) (bcc : Int32) (bac : Int32) (bfc : Int32) (blc : Int32) (bf : Nat → Int32) (lgf : Nat → Int32) (cnt : Int32) (call : Int32) (swf : Nat → Int32) (fnf : Nat → Int32) (ov : Nat → Int64) (rw : Int32) (co : Int32) (cl : Int32) (fi : Int32) (st : Int64) (th : Int32) (bd : Nat → Int32) (lf : Nat → Int32) (hf : Nat → Int32) (of : Nat → Int32) (gf : Nat → Int32) (tf : Nat → Int32) (kf : Nat → Int32) (a1 : Int32) (h : RR lgd ccc cac cfc clc cf bcc bac bfc blc bf lgf cnt call swf fnf ov rw co cl fi st th bd lf hf of gf tf kf) : vw_isClue lgd ccc cac cfc clc cf bcc bac bfc blc bf lgf cnt call swf fnf ov rw co cl fi st th bd lf hf of gf tf kf a1 RR := by
  obtain ⟨r, c, N, n, hB, ⟨⟨rfl, rfl, rfl, rfl⟩, rfl, rfl, rfl, rfl⟩, hL, hg⟩ := id h
  obtain ⟨g, hF, hC, hb, hs, hsc, hcl⟩ := id hB
  have hN := (gN g).2
  have hbN := bv_le hN hb
  unfold vw_isClue
  rintro r_s ov_s ⟨p0, p1⟩
  refine ⟨mok_of g hb, ?_⟩
  intro y hy
  rcases cellc g a1 with ⟨e1, e2, k, hk, rfl⟩ | ⟨e1, e2⟩
  · obtain ⟨v, hv, e⟩ := hbN k hk
    obtain ⟨rfl, rfl⟩ := p0 e1
    refine qryB (if_pos e2) hy (fun _ => ?_) (RR_any h)
    rw [updL_0, e2, Bool.true_and]
    congr 1
    have hsm : sm N cl := fun i h1 _ => by
      cases hq : bt cl i
      · rfl
      · have := (hcl i hq).1; omega
    rw [mhas_bt hN hsm (by omega)]
    obtain ⟨w, hw, ew⟩ := clb_bv (cl := cl) hbN k hk
    rw [zni_FB hC hN hk hw ew]
    unfold clb at ew
    congr 1
    cases hq : bt cl k
    · rw [hq, if_neg (by decide)] at ew
      rw [← ew, decide_eq_true rfl]; rfl
    · rw [hq, if_pos rfl] at ew
      rw [← ew, decide_eq_false (hcl k hq).2]; rfl
  · obtain ⟨rfl, rfl⟩ := p1 (by rw [e1]; decide)
    exact qryB (if_neg (by rw [e2]; decide)) hy (fun z => absurd z (by decide)) (RR_any h)
theorem r_canBe (lgd : Int32) (ccc : Int32) (cac : Int32) (cfc : Int32) (clc : Int32) (cf : Nat → Int32) (bcc : Int32) (bac : Int32) (bfc : Int32) (blc : Int32) (bf : Nat → Int32) (lgf : Nat → Int32) (cnt : Int32) (call : Int32) (swf : Nat → Int32) (fnf : Nat → Int32) (ov : Nat → Int64) (rw : Int32) (co : Int32) (cl : Int32) (fi : Int32) (st : Int64) (th : Int32) (bd : Nat → Int32) (lf : Nat → Int32) (hf : Nat → Int32) (of : Nat → Int32) (gf : Nat → Int32) (tf : Nat → Int32) (kf : Nat → Int32) (a1 : Int32) (a2 : Int32) (h : RR lgd ccc cac cfc clc cf bcc bac bfc blc bf lgf cnt call swf fnf ov rw co cl fi st th bd lf hf of gf tf kf) : vw_canBe lgd ccc cac cfc clc cf bcc bac bfc blc bf lgf cnt call swf fnf ov rw co cl fi st th bd lf hf of gf tf kf a1 a2 RR := by
  obtain ⟨r, c, N, n, hB, ⟨⟨rfl, rfl, rfl, rfl⟩, rfl, rfl, rfl, rfl⟩, hL, hg⟩ := id h
  obtain ⟨g, hF, hC, hb, hs, hsc, hcl⟩ := id hB
  have hN := (gN g).2
  have hbN := bv_le hN hb
  unfold vw_canBe
  refine ⟨zval_FB hN hF, ?_⟩
  rintro r_s bf_s ov_s ⟨p0, p1⟩
  refine ⟨mok_of g hb, ?_⟩
  intro y hy
  unfold zx2 at p0 p1
  unfold mfla at hy
  rcases cellc g a1 with ⟨e1, e2, k, hk, rfl⟩ | ⟨e1, e2⟩
  · rw [if_pos e1] at p0 p1
    rcases numc a2 with ⟨d1, d2, v, v1, v2, rfl⟩ | ⟨d1, d2⟩
    · obtain ⟨rfl, rfl, rfl⟩ := p0 d1
      refine qryB (by rw [if_pos e2, if_pos d2]) hy (fun _ => ?_) (RR_any h)
      rw [updL_0, e2, d2, Bool.and_self, Bool.true_and, zct_mft (hf := hf) g hF hbN hs hk v1 v2]
    · obtain ⟨rfl, rfl, rfl⟩ := p1 (by rw [d1]; decide)
      exact qryB (by rw [if_pos e2, if_neg (by rw [d2]; decide), d1]; rfl) hy (fun z => by rw [d1] at z; exact absurd z (by decide)) (RR_any h)
  · have e3 := ne_of_eq1 e1
    rw [if_neg e3] at p0 p1
    obtain ⟨rfl, rfl, rfl⟩ := p1 e3
    exact qryB (by rw [if_neg (by rw [e2]; decide), e1]; rfl) hy (fun z => by rw [e1] at z; exact absurd z (by decide)) (RR_any h)
theorem r_shapesWith (lgd : Int32) (ccc : Int32) (cac : Int32) (cfc : Int32) (clc : Int32) (cf : Nat → Int32) (bcc : Int32) (bac : Int32) (bfc : Int32) (blc : Int32) (bf : Nat → Int32) (lgf : Nat → Int32) (cnt : Int32) (call : Int32) (swf : Nat → Int32) (fnf : Nat → Int32) (ov : Nat → Int64) (rw : Int32) (co : Int32) (cl : Int32) (fi : Int32) (st : Int64) (th : Int32) (bd : Nat → Int32) (lf : Nat → Int32) (hf : Nat → Int32) (of : Nat → Int32) (gf : Nat → Int32) (tf : Nat → Int32) (kf : Nat → Int32) (a1 : Int32) (a2 : Int32) (h : RR lgd ccc cac cfc clc cf bcc bac bfc blc bf lgf cnt call swf fnf ov rw co cl fi st th bd lf hf of gf tf kf) : vw_shapesWith lgd ccc cac cfc clc cf bcc bac bfc blc bf lgf cnt call swf fnf ov rw co cl fi st th bd lf hf of gf tf kf a1 a2 RR := by
  obtain ⟨r, c, N, n, hB, ⟨⟨rfl, rfl, rfl, rfl⟩, rfl, rfl, rfl, rfl⟩, hL, hg⟩ := id h
  obtain ⟨g, hF, hC, hb, hs, hsc, hcl⟩ := id hB
  have hN := (gN g).2
  have hbN := bv_le hN hb
  unfold vw_shapesWith
  rintro r_s _ _ _ ov_s ⟨p0, p1⟩
  refine ⟨mok_of g hb, ?_⟩
  intro y hy
  unfold zxc2 at p0 p1
  rcases cellc g a1 with ⟨e1, e2, k, hk, rfl⟩ | ⟨e1, e2⟩
  · rw [if_pos e1] at p0 p1
    rcases cellc g a2 with ⟨d1, d2, j, hj, rfl⟩ | ⟨d1, d2⟩
    · obtain ⟨v, hv, e⟩ := hbN k hk
      obtain ⟨rfl, rfl⟩ := p0 d1
      refine qry (if_pos ⟨e2, d2⟩) (fun _ => ?_) (RR_any h)
      rw [updL_0, hy]
      congr 1
      unfold zsw
      rw [if_pos ⟨nI_pos (by omega), nI_lt (b := 12) (by omega) (by decide)⟩, nI_clamp (by omega), nI_clamp (by omega), e]
      by_cases h0 : v = 0
      · subst h0
        rw [if_neg (fun z => by have := z.2; rw [nI_0] at this; exact absurd this (by decide))]
        unfold zli
        rw [zni_FB hF hN hk (by decide) e, if_pos nI_0]
        show mz12 swf j = 0
        unfold mz12
        rw [if_pos (by omega)]
      · have h1 : 1 ≤ v := by omega
        rw [if_pos ⟨⟨e2, d2⟩, pos_nI h1 hv⟩, zli_3 (hf := hf) g hF hk h1 hv e _ hj]
    · obtain ⟨rfl, rfl⟩ := p1 (by rw [d1]; decide)
      exact qry (if_neg (fun z => by rw [d2] at z; exact absurd z.2 (by decide))) (fun z => absurd z (by decide)) (RR_any h)
  · have e3 := ne_of_eq1 e1
    rw [if_neg e3] at p0 p1
    obtain ⟨rfl, rfl⟩ := p1 e3
    exact qry (if_neg (fun z => by rw [e2] at z; exact absurd z.1 (by decide))) (fun z => absurd z (by decide)) (RR_any h)
theorem r_isSolved (lgd : Int32) (ccc : Int32) (cac : Int32) (cfc : Int32) (clc : Int32) (cf : Nat → Int32) (bcc : Int32) (bac : Int32) (bfc : Int32) (blc : Int32) (bf : Nat → Int32) (lgf : Nat → Int32) (cnt : Int32) (call : Int32) (swf : Nat → Int32) (fnf : Nat → Int32) (ov : Nat → Int64) (rw : Int32) (co : Int32) (cl : Int32) (fi : Int32) (st : Int64) (th : Int32) (bd : Nat → Int32) (lf : Nat → Int32) (hf : Nat → Int32) (of : Nat → Int32) (gf : Nat → Int32) (tf : Nat → Int32) (kf : Nat → Int32) (h : RR lgd ccc cac cfc clc cf bcc bac bfc blc bf lgf cnt call swf fnf ov rw co cl fi st th bd lf hf of gf tf kf) : vw_isSolved lgd ccc cac cfc clc cf bcc bac bfc blc bf lgf cnt call swf fnf ov rw co cl fi st th bd lf hf of gf tf kf RR := by
  obtain ⟨r, c, N, n, hB, ⟨⟨rfl, rfl, rfl, rfl⟩, rfl, rfl, rfl, rfl⟩, hL, hg⟩ := id h
  obtain ⟨g, hF, hC, hb, hs, hsc, hcl⟩ := id hB
  have hN := (gN g).2
  have hbN := bv_le hN hb
  unfold vw_isSolved
  refine ⟨mok_of g hb, fun _ => RR_any h, fun z => z ?_⟩
  rw [solved_eq (hf := hf) g hF hbN hs, gmN g]
theorem r_solutions (lgd : Int32) (ccc : Int32) (cac : Int32) (cfc : Int32) (clc : Int32) (cf : Nat → Int32) (bcc : Int32) (bac : Int32) (bfc : Int32) (blc : Int32) (bf : Nat → Int32) (lgf : Nat → Int32) (cnt : Int32) (call : Int32) (swf : Nat → Int32) (fnf : Nat → Int32) (ov : Nat → Int64) (rw : Int32) (co : Int32) (cl : Int32) (fi : Int32) (st : Int64) (th : Int32) (bd : Nat → Int32) (lf : Nat → Int32) (hf : Nat → Int32) (of : Nat → Int32) (gf : Nat → Int32) (tf : Nat → Int32) (kf : Nat → Int32) (a1 : Int32) (h : RR lgd ccc cac cfc clc cf bcc bac bfc blc bf lgf cnt call swf fnf ov rw co cl fi st th bd lf hf of gf tf kf) : vw_solutions lgd ccc cac cfc clc cf bcc bac bfc blc bf lgf cnt call swf fnf ov rw co cl fi st th bd lf hf of gf tf kf a1 RR := by
  obtain ⟨r, c, N, n, hB, ⟨⟨rfl, rfl, rfl, rfl⟩, rfl, rfl, rfl, rfl⟩, hL, hg⟩ := id h
  obtain ⟨g, hF, hC, hb, hs, hsc, hcl⟩ := id hB
  have hN := (gN g).2
  have hbN := bv_le hN hb
  unfold vw_solutions
  refine ⟨⟨zval_FB hN hF, by rw [gzN g]; exact hN, by rw [gbc g, gzN g]⟩, ?_⟩
  rintro r_s bf_s ov_s ⟨p0, p1⟩
  refine ⟨⟨mok_of g hb, fun k hk => by rw [hg k hk]; exact vp_in_nI (n := 0) (N := 9) (by decide) (by decide)⟩, ?_⟩
  intro _ _ _ y hy
  have hx : (zx5 a1 = 0 ∧ min3 a1 1 5 = true) ∨ (¬ zx5 a1 = 0 ∧ min3 a1 1 5 = false) := by
    unfold zx5 min3
    by_cases h0 : a1 < 1
    · rw [if_pos h0, decide_eq_false (Int32.not_le.mpr h0)]
      exact Or.inr ⟨by decide, rfl⟩
    · rw [if_neg h0, decide_eq_true (Int32.not_lt.mp h0), Bool.true_and]
      by_cases h5 : a1 ≤ 5
      · rw [if_pos h5, decide_eq_true h5]; exact Or.inl ⟨rfl, rfl⟩
      · rw [if_neg h5, decide_eq_false h5]; exact Or.inr ⟨by decide, rfl⟩
  rcases hx with ⟨e1, e2⟩ | ⟨e1, e2⟩
  · obtain ⟨rfl, rfl, rfl⟩ := p0 e1
    refine qry (if_pos e2) (fun _ => ?_) (RR_any h)
    rw [updL_0, hy, if_pos e2, zcs_eq g (gf := gf) (fun i hi => hg i (by omega)) hF hbN hs]
  · obtain ⟨rfl, rfl, rfl⟩ := p1 e1
    exact qry (if_neg (by rw [e2]; decide)) (fun z => absurd z (by decide)) (RR_any h)
