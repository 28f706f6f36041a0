theorem bt_or (x y : Int32) (i : Nat) : bt (x ||| y) i = (bt x i || bt y i) := by
  show (x ||| y).toBitVec.getLsbD i = _
  rw [Int32.toBitVec_or, BitVec.getLsbD_or]; rfl
theorem bt_and (x y : Int32) (i : Nat) : bt (x &&& y) i = (bt x i && bt y i) := by
  show (x &&& y).toBitVec.getLsbD i = _
  rw [Int32.toBitVec_and, BitVec.getLsbD_and]; rfl
theorem bt_xor (x y : Int32) (i : Nat) : bt (x ^^^ y) i = (bt x i ^^ bt y i) := by
  show (x ^^^ y).toBitVec.getLsbD i = _
  rw [Int32.toBitVec_xor, BitVec.getLsbD_xor]; rfl
theorem bt_m1 : ∀ i, i < 32 → bt (-1) i = true := by decide
theorem bt_0 (i : Nat) : bt 0 i = false := by
  show (0#32 : BitVec 32).getLsbD i = false
  simp
theorem bt_not {x : Int32} {i : Nat} (h : i < 32) : bt (x ^^^ (-1)) i = !bt x i := by rw [bt_xor, bt_m1 i h, Bool.xor_true]
theorem bt_ext {x y : Int32} (h : ∀ i, i < 32 → bt x i = bt y i) : x = y := by
  apply Int32.toBitVec_inj.mp
  exact BitVec.eq_of_getLsbD_eq h
theorem cb_lt (c : Int32) : cb c < 32 := Nat.mod_lt _ (by decide)
theorem sh_tw : ∀ l, l < 32 → ((1 : Int32) <<< nI l).toBitVec = BitVec.twoPow 32 l := by decide +kernel
theorem zbit_bv (c : Int32) : (zbit c).toBitVec = BitVec.twoPow 32 (cb c) := by
  unfold zbit
  rw [pk_and c 5 (by decide)]
  exact sh_tw _ (cb_lt c)
theorem bt_zbit (c : Int32) {i : Nat} (h : i < 32) : bt (zbit c) i = decide (i = cb c) := by
  show (zbit c).toBitVec.getLsbD i = _
  rw [zbit_bv, BitVec.getLsbD_twoPow]
  by_cases e : i = cb c
  · subst e; simp [h]
  · simp [e, Ne.symm e]
theorem cb_nI {l : Nat} (h : l < 32) : cb (nI l) = l := by
  unfold cb
  rw [pk_tn (by omega)]; exact Nat.mod_eq_of_lt h
theorem zhas_bt (s c : Int32) : zhas s c = bt s (cb c) := by
  unfold zhas
  by_cases h : bt s (cb c) = true
  · rw [h, decide_eq_false]; rfl
    intro e
    have := congrArg (fun z => bt z (cb c)) e
    simp only [bt_and, bt_zbit c (cb_lt c), bt_0, h, decide_true, Bool.and_self] at this
    exact absurd this (by decide)
  · have h : bt s (cb c) = false := by simpa using h
    rw [h, decide_eq_true]; rfl
    apply bt_ext
    intro i hi
    rw [bt_and, bt_zbit c hi, bt_0]
    by_cases e : i = cb c
    · rw [e, h]; rfl
    · simp [e]
theorem bt_zwr (f : Nat → Int32) (c n : Int32) {k i : Nat} (hk : k < 10) (hi : i < 32) : bt (zwr f c n k) i = if i = cb c then decide (nI k = n) else bt (f k) i := by
  unfold zwr
  rw [if_pos hk]
  by_cases e : i = cb c
  · rw [if_pos e]
    split
    · next h => rw [bt_or, bt_zbit c hi]; simp [e, h]
    · next h => rw [bt_and, bt_not hi, bt_zbit c hi]; simp [e, h]
  · rw [if_neg e]
    split
    · rw [bt_or, bt_zbit c hi]; simp [e]
    · rw [bt_and, bt_not hi, bt_zbit c hi]; simp [e]
theorem zwr_back {f : Nat → Int32} (hv : zval f) {c : Int32} (n : Int32) (h : zhas (f 0) c = true) : zwr (zwr f c n) c 0 = f := by
  rw [zhas_bt] at h
  funext k
  by_cases hk : k < 10
  · apply bt_ext
    intro i hi
    rw [bt_zwr _ _ _ hk hi]
    by_cases e : i = cb c
    · rw [if_pos e]
      by_cases k0 : k = 0
      · subst k0; rw [e, h]; rfl
      · rw [decide_eq_false, e, hv k (by omega) hk _ (cb_lt c) h]
        exact fun z => k0 ((nI_eq (a := k) (b := 0) (by omega) (by decide)).mp z)
    · rw [if_neg e, bt_zwr _ _ _ hk hi, if_neg e]
  · simp [zwr, hk]
theorem zctf_same {f : Nat → Int32} (hv : zval f) (c n : Int32) : zctf f c n = f := by
  unfold zctf
  split
  · next h => exact zwr_back hv n h
  · rfl
theorem zval_zwr {f : Nat → Int32} (hv : zval f) (c n : Int32) : zval (zwr f c n) := by
  intro k hk1 hk i hi h
  rw [bt_zwr _ _ _ (by decide) hi] at h
  rw [bt_zwr _ _ _ hk hi]
  by_cases e : i = cb c
  · rw [if_pos e] at h ⊢
    have h := of_decide_eq_true h
    rw [decide_eq_false]
    intro z
    have := (nI_eq (a := 0) (b := k) (by decide) (by omega)).mp (h.trans z.symm)
    omega
  · rw [if_neg e] at h ⊢
    exact hv k hk1 hk i hi h
theorem msR_eq {q : Nat} (hq : q < 2 ^ 31) (L : List (Nat → Int32)) : msR (nI q) L = nI (min q L.length) := by
  unfold msR
  rw [nI_clamp hq]
  split
  · rw [Nat.min_eq_right (by omega)]
  · rw [Nat.min_eq_left (by omega)]
theorem pz_X3_countSolutions (cc : Int32) (ac : Int32) (fc : Int32) (lc : Int32) (f : Nat → Int32) (p1 : Int32) (p2 : Int32) (h : zrp ac f p1 p2 0) : False := by
  obtain ⟨-, -, a, q, -, -, h, -⟩ := h
  exact absurd h (Nat.not_lt_zero _)
theorem pz_X3_solveFrom (cc : Int32) (ac : Int32) (fc : Int32) (lc : Int32) (f : Nat → Int32) (fnf : Nat → Int32) (p1 : Int32) (h : zrq ac f fnf p1 0) : False := by
  obtain ⟨-, -, a, -, -, h⟩ := h
  exact absurd h (Nat.not_lt_zero _)
theorem pk_subI {a b : Nat} (h : b ≤ a) : nI a - nI b = nI (a - b) := pk_sub h
def zgr (cc ac fc lc : Int32) (N k : Nat) (f : Nat → Int32) (t : Nat) : List (Nat → Int32) := if zok1 cc ac fc lc f (nI (N - (k + 1))) (nI (t + 1)) then zsl cc ac fc lc N k (zwr f (nI (N - (k + 1))) (nI (t + 1))) else []
def I_X3_countSolutions_2 (cc : Int32) (ac : Int32) (fc : Int32) (lc : Int32) (f : Nat → Int32) (p1 : Int32) (p2 : Int32) (d : Nat) : Int32 → (Nat → Int32) → Prop := fun x3 f' => zrp ac f p1 p2 (d + 1) ∧ f' = f ∧ ∃ c : Nat, p1.toNatClampNeg ≤ c ∧ c ≤ zN ac ∧ x3 = nI c ∧ zsl cc ac fc lc (zN ac) (zN ac - c) f = zsl cc ac fc lc (zN ac) (zN ac - p1.toNatClampNeg) f
def mu_X3_countSolutions_2 (cc : Int32) (ac : Int32) (fc : Int32) (lc : Int32) (f : Nat → Int32) (p1 : Int32) (p2 : Int32) (d : Nat) : Int32 → (Nat → Int32) → Nat := fun x3 f' => zN ac - x3.toNatClampNeg
def I_X3_countSolutions_40 (cc : Int32) (ac : Int32) (fc : Int32) (lc : Int32) (f : Nat → Int32) (p1 : Int32) (p2 : Int32) (d : Nat) : Int32 → Int32 → Int32 → (Nat → Int32) → Prop := fun x3 x4 x5 f' => zrp ac f p1 p2 (d + 1) ∧ f' = f ∧ ∃ c t n : Nat, p1.toNatClampNeg ≤ c ∧ c < zN ac ∧ x3 = nI c ∧ t ≤ 9 ∧ x5 = nI (t + 1) ∧ n ≤ p2.toNatClampNeg ∧ x4 = nI n ∧ min p2.toNatClampNeg (n + (tcat (zgr cc ac fc lc (zN ac) (zN ac - (c + 1)) f) (9 - t)).length) = min p2.toNatClampNeg (zsl cc ac fc lc (zN ac) (zN ac - p1.toNatClampNeg) f).length
def mu_X3_countSolutions_40 (cc : Int32) (ac : Int32) (fc : Int32) (lc : Int32) (f : Nat → Int32) (p1 : Int32) (p2 : Int32) (d : Nat) : Int32 → Int32 → Int32 → (Nat → Int32) → Nat := fun x3 x4 x5 f' => 10 - x5.toNatClampNeg
theorem pl_X3_countSolutions_2 (cc : Int32) (ac : Int32) (fc : Int32) (lc : Int32) (f : Nat → Int32) (p1 : Int32) (p2 : Int32) (d : Nat) (hpre : zrp ac f p1 p2 (d + 1)) : ∀ (x3 : Int32) (f' : Nat → Int32), I_X3_countSolutions_2 cc ac fc lc f p1 p2 d x3 f' → vs_X3_countSolutions_2 cc ac fc lc f p1 p2 d (fun (r : Int32) (u : (Nat → Int32)) => r = zcs cc ac fc lc f p1 p2 ∧ u = (f)) (fun (x39 : Int32) (f9 : Nat → Int32) => I_X3_countSolutions_2 cc ac fc lc f p1 p2 d x39 f9 ∧ mu_X3_countSolutions_2 cc ac fc lc f p1 p2 d x39 f9 < mu_X3_countSolutions_2 cc ac fc lc f p1 p2 d x3 f') (I_X3_countSolutions_40 cc ac fc lc f p1 p2 d) x3 f' := by
  rintro x3 f' ⟨hp, rfl, c, hac, hcN, rfl, he⟩
  obtain ⟨hv, ⟨hN, eN⟩, a, q, rfl, haN, hd, rfl, hq1, hq5⟩ := id hp
  have ea : (nI a).toNatClampNeg = a := nI_clamp (by omega)
  have eq : (nI q).toNatClampNeg = q := nI_clamp (by omega)
  rw [ea] at hac he
  have hone : c = zN ac → (1 : Int32) = zcs cc ac fc lc f' (nI a) (nI q) ∧ f' = f' := by
    intro e
    refine ⟨?_, rfl⟩
    show (1 : Int32) = msR (nI q) (zsl cc ac fc lc (zN ac) (zN ac - (nI a).toNatClampNeg) f')
    rw [ea, ← he, e, Nat.sub_self, msR_eq (by omega)]
    have : min q (zsl cc ac fc lc (zN ac) 0 f').length = 1 := by show min q 1 = 1; omega
    rw [this]; rfl
  have hgo : c < zN ac → zni f' (nI c) 9 = 0 → I_X3_countSolutions_40 cc ac fc lc f' (nI a) (nI q) d (nI c) 0 1 f' := by
    intro hlt hz
    have h1 : zN ac - (zN ac - (c + 1) + 1) = c := by omega
    have h2 : zN ac - c = zN ac - (c + 1) + 1 := by omega
    refine ⟨hp, rfl, c, 0, 0, by rw [ea]; exact hac, hlt, rfl, by decide, rfl, Nat.zero_le _, rfl, ?_⟩
    have e : zsl cc ac fc lc (zN ac) (zN ac - (c + 1) + 1) f' = tcat (zgr cc ac fc lc (zN ac) (zN ac - (c + 1)) f') 9 := by
      simp only [zsl]
      rw [if_pos (by rw [h1]; exact hz)]
      rfl
    rw [ea, ← he, h2, e, Nat.zero_add]
  unfold vs_X3_countSolutions_2
  rw [eN]
  refine ⟨fun c1 => ⟨fun c2 => ?_, fun c2 => ?_⟩, fun c1 => ⟨fun c2 => ⟨fun c3 => ?_, fun c3 => ?_⟩, fun c2 => ?_⟩⟩
  · have c1 := k_le (by omega) (by omega) c1
    have c2 := k_lt (by omega) (by omega) c2
    omega
  · have c1 := k_le (by omega) (by omega) c1
    exact hone (by omega)
  · have c3 := k_lt (by omega) (by omega) c3
    exact hgo c3 c2
  · have c1 := k_nle (by omega) (by omega) c1
    have c3 := k_nlt (by omega) (by omega) c3
    omega
  · have c1 := k_nle (by omega) (by omega) c1
    rintro y rfl
    refine ⟨⟨hp, rfl, c + 1, by rw [ea]; omega, c1, nI_1 c, ?_⟩, ?_⟩
    · rw [ea, ← he]
      have h1 : zN ac - (zN ac - (c + 1) + 1) = c := by omega
      have h2 : zN ac - c = zN ac - (c + 1) + 1 := by omega
      rw [h2]
      simp only [zsl, h1, if_neg c2]
    · show zN ac - (nI c + 1).toNatClampNeg < zN ac - (nI c).toNatClampNeg
      exact hmu _ c1 (by omega)
theorem pl_X3_countSolutions_40 (cc : Int32) (ac : Int32) (fc : Int32) (lc : Int32) (f : Nat → Int32) (p1 : Int32) (p2 : Int32) (d : Nat) (hpre : zrp ac f p1 p2 (d + 1)) : ∀ (x3 : Int32) (x4 : Int32) (x5 : Int32) (f' : Nat → Int32), I_X3_countSolutions_40 cc ac fc lc f p1 p2 d x3 x4 x5 f' → vs_X3_countSolutions_40 cc ac fc lc f p1 p2 d (fun (r : Int32) (u : (Nat → Int32)) => r = zcs cc ac fc lc f p1 p2 ∧ u = (f)) (I_X3_countSolutions_2 cc ac fc lc f p1 p2 d) (fun (x39 : Int32) (x49 : Int32) (x59 : Int32) (f9 : Nat → Int32) => I_X3_countSolutions_40 cc ac fc lc f p1 p2 d x39 x49 x59 f9 ∧ mu_X3_countSolutions_40 cc ac fc lc f p1 p2 d x39 x49 x59 f9 < mu_X3_countSolutions_40 cc ac fc lc f p1 p2 d x3 x4 x5 f') x3 x4 x5 f' := by
  rintro x3 x4 x5 f' ⟨hp, rfl, c, t, n, hac, hcN, rfl, ht, rfl, hn, rfl, he⟩
  obtain ⟨hv, ⟨hN, eN⟩, a, q, rfl, haN, hd, rfl, hq1, hq5⟩ := id hp
  have ea : (nI a).toNatClampNeg = a := nI_clamp (by omega)
  have eq : (nI q).toNatClampNeg = q := nI_clamp (by omega)
  rw [ea] at hac he
  rw [eq] at hn he
  have hres : zcs cc ac fc lc f' (nI a) (nI q) = nI (min q (zsl cc ac fc lc (zN ac) (zN ac - a) f').length) := by
    show msR (nI q) (zsl cc ac fc lc (zN ac) (zN ac - (nI a).toNatClampNeg) f') = _
    rw [ea, msR_eq (by omega)]
  refine ⟨fun c1 => ?_, fun c1 => ⟨fun c2 => ?_, fun c2 => ?_⟩⟩
  · have c1 := k_lt (a := 9) (by decide) (by omega) c1
    obtain rfl : t = 9 := by omega
    refine ⟨?_, rfl⟩
    rw [hres, ← he]
    simp only [Nat.sub_self, tcat, List.length_nil, Nat.add_zero]
    rw [Nat.min_eq_right hn]
  · have c2 := k_le (by omega) (by omega) c2
    refine ⟨?_, rfl⟩
    rw [hres, ← he]
    have : n = q := by omega
    subst this
    rw [Nat.min_eq_left (by omega)]
  · have c1 := k_nlt (a := 9) (by decide) (by omega) c1
    have c2 := k_nle (by omega) (by omega) c2
    have hm : ∀ z g, mu_X3_countSolutions_40 cc ac fc lc f' (nI a) (nI q) d (nI c) z (nI (t + 1) + 1) g < mu_X3_countSolutions_40 cc ac fc lc f' (nI a) (nI q) d (nI c) (nI n) (nI (t + 1)) f' := fun z g => hmu 10 (by omega) (by decide)
    have h9 : 9 - t = (9 - (t + 1)) + 1 := by omega
    have h8 : 8 - (9 - (t + 1)) = t := by omega
    rw [h9] at he
    simp only [tcat, h8, List.length_append] at he
    have hnc : zN ac - (zN ac - (c + 1) + 1) = c := by omega
    have hno : zok1 cc ac fc lc f' (nI c) (nI (t + 1)) = false → (I_X3_countSolutions_40 cc ac fc lc f' (nI a) (nI q) d (nI c) (nI n) (nI (t + 1) + 1) f') := by
      intro hz
      refine ⟨hp, rfl, c, t + 1, n, by rw [ea]; exact hac, hcN, rfl, by omega, nI_1 _, by rw [eq]; omega, rfl, ?_⟩
      rw [ea, eq, ← he]
      have : zgr cc ac fc lc (zN ac) (zN ac - (c + 1)) f' t = [] := by unfold zgr; rw [hnc, hz]; rfl
      rw [this, List.length_nil, Nat.zero_add]
    unfold vs_X3_countSolutions_40 at *
    refine ⟨fun c3 => ?_, fun c3 => ⟨fun c4 => ?_, fun c4 => ?_⟩⟩
    · rintro y rfl
      rw [b2i_eq0] at c3
      exact ⟨hno (by unfold zok1; rw [c3]; rfl), hm _ _⟩
    · rintro y rfl
      rw [b2i_eq0] at c4
      rw [zctf_same hv]
      exact ⟨hno (by unfold zok1; rw [c4, Bool.and_false]), hm _ _⟩
    · rw [b2i_ne0] at c3 c4
      have hhas : zhas (f' 0) (nI c) = true := by unfold zct at c4; rw [Bool.and_eq_true] at c4; exact c4.1
      have hok : zok1 cc ac fc lc f' (nI c) (nI (t + 1)) = true := by unfold zok1; rw [c3, c4]; rfl
      rw [zctf_same hv, zwr_back hv _ hhas, pk_sub (by omega), nI_1]
      refine ⟨⟨zval_zwr hv _ _, ⟨hN, eN⟩, c + 1, q - n, rfl, by omega, by omega, rfl, by omega, by omega⟩, ?_⟩
      rintro y rfl y2 rfl
      have hsub : zcs cc ac fc lc (zwr f' (nI c) (nI (t + 1))) (nI (c + 1)) (nI (q - n)) = nI (min (q - n) (zgr cc ac fc lc (zN ac) (zN ac - (c + 1)) f' t).length) := by
        show msR (nI (q - n)) (zsl cc ac fc lc (zN ac) (zN ac - (nI (c + 1)).toNatClampNeg) _) = _
        rw [nI_clamp (by omega), msR_eq (by omega)]
        unfold zgr; rw [hnc, hok]; rfl
      rw [hsub, nI_add]
      refine ⟨⟨hp, rfl, c, t + 1, _, by rw [ea]; exact hac, hcN, rfl, by omega, nI_1 _, ?_, rfl, ?_⟩, hm _ _⟩
      · rw [eq]; omega
      · rw [ea, eq, ← he]; omega
theorem pe_X3_countSolutions (cc : Int32) (ac : Int32) (fc : Int32) (lc : Int32) (f : Nat → Int32) (p1 : Int32) (p2 : Int32) (d : Nat) (hpre : zrp ac f p1 p2 (d + 1)) : ve_X3_countSolutions cc ac fc lc f p1 p2 d (fun (r : Int32) (u : (Nat → Int32)) => r = zcs cc ac fc lc f p1 p2 ∧ u = (f)) (I_X3_countSolutions_2 cc ac fc lc f p1 p2 d) (I_X3_countSolutions_40 cc ac fc lc f p1 p2 d) := by
  obtain ⟨hv, ⟨hN, eN⟩, a, q, rfl, haN, hd, rfl, hq1, hq5⟩ := id hpre
  have ea : (nI a).toNatClampNeg = a := nI_clamp (by omega)
  exact ⟨hpre, rfl, a, by rw [ea]; exact Nat.le_refl _, haN, rfl, by rw [ea]⟩
def zfg (cc ac fc lc : Int32) (fnf : Nat → Int32) (N k : Nat) (f : Nat → Int32) (t : Nat) : List (Nat → Int32) := if zok1 cc ac fc lc f (nI (N - (k + 1))) (zng (fnf (N - (k + 1))) t) then zfl cc ac fc lc fnf N k (zwr f (nI (N - (k + 1))) (zng (fnf (N - (k + 1))) t)) else []
def I_X3_solveFrom_27 (cc : Int32) (ac : Int32) (fc : Int32) (lc : Int32) (f : Nat → Int32) (fnf : Nat → Int32) (p1 : Int32) (d : Nat) : Int32 → Int32 → (Nat → Int32) → Prop := fun x3 x4 f' => zrq ac f fnf p1 (d + 1) ∧ p1.toNatClampNeg < zN ac ∧ f' = f ∧ ∃ t : Nat, t ≤ 9 ∧ x4 = nI t ∧ x3 = zng (fnf p1.toNatClampNeg) t ∧ (tcat (zfg cc ac fc lc fnf (zN ac) (zN ac - (p1.toNatClampNeg + 1)) f) (9 - t)).head? = zsf cc ac fc lc f fnf p1
def mu_X3_solveFrom_27 (cc : Int32) (ac : Int32) (fc : Int32) (lc : Int32) (f : Nat → Int32) (fnf : Nat → Int32) (p1 : Int32) (d : Nat) : Int32 → Int32 → (Nat → Int32) → Nat := fun x3 x4 f' => 9 - x4.toNatClampNeg
theorem pl_X3_solveFrom_27 (cc : Int32) (ac : Int32) (fc : Int32) (lc : Int32) (f : Nat → Int32) (fnf : Nat → Int32) (p1 : Int32) (d : Nat) (hpre : zrq ac f fnf p1 (d + 1)) : ∀ (x3 : Int32) (x4 : Int32) (f' : Nat → Int32), I_X3_solveFrom_27 cc ac fc lc f fnf p1 d x3 x4 f' → vs_X3_solveFrom_27 cc ac fc lc f fnf p1 d (fun (r : Int32) (u : (Nat → Int32)) => r = b2i (zsf cc ac fc lc f fnf p1).isSome ∧ u = ((zsf cc ac fc lc f fnf p1).getD f)) (fun (x39 : Int32) (x49 : Int32) (f9 : Nat → Int32) => I_X3_solveFrom_27 cc ac fc lc f fnf p1 d x39 x49 f9 ∧ mu_X3_solveFrom_27 cc ac fc lc f fnf p1 d x39 x49 f9 < mu_X3_solveFrom_27 cc ac fc lc f fnf p1 d x3 x4 f') x3 x4 f' := by
  rintro x3 x4 f' ⟨hp, hlt, rfl, t, ht, rfl, rfl, he⟩
  obtain ⟨hv, ⟨hN, eN⟩, a, rfl, haN, hd⟩ := id hp
  have ea : (nI a).toNatClampNeg = a := nI_clamp (by omega)
  rw [ea] at hlt he ⊢
  refine ⟨fun c1 => ?_, fun c1 => ?_⟩
  · have c1 := k_le (a := 9) (by decide) (by omega) c1
    obtain rfl : t = 9 := by omega
    have he : none = zsf cc ac fc lc f' fnf (nI a) := he
    rw [← he]
    exact ⟨rfl, rfl⟩
  · have c1 := k_nle (a := 9) (by decide) (by omega) c1
    have h9 : 9 - t = (9 - (t + 1)) + 1 := by omega
    have h8 : 8 - (9 - (t + 1)) = t := by omega
    rw [h9] at he
    simp only [tcat, h8, List.head?_append] at he
    have hnc : zN ac - (zN ac - (a + 1) + 1) = a := by omega
    have hm : ∀ z w g, mu_X3_solveFrom_27 cc ac fc lc f' fnf (nI a) d z (nI t + 1) g < mu_X3_solveFrom_27 cc ac fc lc f' fnf (nI a) d w (nI t) f' := fun z w g => hmu 9 c1 (by decide)
    have hnx : (zfg cc ac fc lc fnf (zN ac) (zN ac - (a + 1)) f' t).head? = none → ∀ y, y = zng (fnf a) (t + 1) → (I_X3_solveFrom_27 cc ac fc lc f' fnf (nI a) d y (nI t + 1) f') := by
      rintro hz y rfl
      refine ⟨hp, by rw [ea]; exact hlt, rfl, t + 1, by omega, nI_1 t, by rw [ea], ?_⟩
      rw [ea, ← he, hz]; rfl
    have hno : zok1 cc ac fc lc f' (nI a) (zng (fnf a) t) = false → (zfg cc ac fc lc fnf (zN ac) (zN ac - (a + 1)) f' t).head? = none := fun hz => by
      unfold zfg; rw [hnc, hz]; rfl
    have hs1 : zng (fnf a) t = 9 → (1 : Int32) = zng (fnf a) (t + 1) := fun h => by simp only [zng, if_pos h]
    have hs2 : ¬ zng (fnf a) t = 9 → zng (fnf a) t + 1 = zng (fnf a) (t + 1) := fun h => by simp only [zng, if_neg h]
    refine ⟨fun c2 => ⟨fun c3 => ?_, fun c3 => ?_⟩, fun c2 => ⟨fun c3 => ⟨fun c4 => ?_, fun c4 => ?_⟩, fun c3 => ⟨?_, fun c4 => ⟨fun c5 => ?_, fun c5 => ?_⟩, fun c4 => ?_⟩⟩⟩
    · rintro y rfl
      rw [b2i_eq0] at c2
      exact ⟨hnx (hno (by unfold zok1; rw [c2]; rfl)) _ (hs1 c3), hm _ _ _⟩
    · rintro y rfl y2 rfl
      rw [b2i_eq0] at c2
      exact ⟨hnx (hno (by unfold zok1; rw [c2]; rfl)) _ (hs2 c3), hm _ _ _⟩
    · rintro y rfl
      rw [b2i_eq0] at c3
      rw [zctf_same hv]
      exact ⟨hnx (hno (by unfold zok1; rw [c3, Bool.and_false])) _ (hs1 c4), hm _ _ _⟩
    · rintro y rfl y2 rfl
      rw [b2i_eq0] at c3
      rw [zctf_same hv]
      exact ⟨hnx (hno (by unfold zok1; rw [c3, Bool.and_false])) _ (hs2 c4), hm _ _ _⟩
    · rw [zctf_same hv, nI_1]
      exact ⟨zval_zwr hv _ _, ⟨hN, eN⟩, a + 1, rfl, by omega, by omega⟩
    all_goals
      rw [b2i_ne0] at c2 c3
      have hhas : zhas (f' 0) (nI a) = true := by unfold zct at c3; rw [Bool.and_eq_true] at c3; exact c3.1
      have hok : zok1 cc ac fc lc f' (nI a) (zng (fnf a) t) = true := by unfold zok1; rw [c2, c3]; rfl
      have hsub : zsf cc ac fc lc (zwr f' (nI a) (zng (fnf a) t)) fnf (nI (a + 1)) = (zfg cc ac fc lc fnf (zN ac) (zN ac - (a + 1)) f' t).head? := by
        show (zfl cc ac fc lc fnf (zN ac) (zN ac - (nI (a + 1)).toNatClampNeg) _).head? = _
        rw [nI_clamp (by omega)]
        unfold zfg; rw [hnc, hok]; rfl
    · rintro y rfl
      rw [zctf_same hv, nI_1 a, hsub] at c4 ⊢
      rw [b2i_eq0] at c4
      have c4 := Option.not_isSome_iff_eq_none.mp (by rw [c4]; decide)
      rw [c4]
      have : zwr ((none : Option (Nat → Int32)).getD (zwr f' (nI a) (zng (fnf a) t))) (nI a) 0 = f' := zwr_back hv _ hhas
      rw [this]
      exact ⟨hnx c4 _ (hs1 c5), hm _ _ _⟩
    · rintro y rfl y2 rfl
      rw [zctf_same hv, nI_1 a, hsub] at c4 ⊢
      rw [b2i_eq0] at c4
      have c4 := Option.not_isSome_iff_eq_none.mp (by rw [c4]; decide)
      rw [c4]
      have : zwr ((none : Option (Nat → Int32)).getD (zwr f' (nI a) (zng (fnf a) t))) (nI a) 0 = f' := zwr_back hv _ hhas
      rw [this]
      exact ⟨hnx c4 _ (hs2 c5), hm _ _ _⟩
    · rw [zctf_same hv, nI_1 a, hsub] at c4 ⊢
      rw [b2i_ne0] at c4
      obtain ⟨g, hg⟩ := Option.isSome_iff_exists.mp c4
      rw [hg] at he ⊢
      have he : some g = zsf cc ac fc lc f' fnf (nI a) := he
      rw [← he]
      exact ⟨rfl, rfl⟩
theorem pe_X3_solveFrom (cc : Int32) (ac : Int32) (fc : Int32) (lc : Int32) (f : Nat → Int32) (fnf : Nat → Int32) (p1 : Int32) (d : Nat) (hpre : zrq ac f fnf p1 (d + 1)) : ve_X3_solveFrom cc ac fc lc f fnf p1 d (fun (r : Int32) (u : (Nat → Int32)) => r = b2i (zsf cc ac fc lc f fnf p1).isSome ∧ u = ((zsf cc ac fc lc f fnf p1).getD f)) (I_X3_solveFrom_27 cc ac fc lc f fnf p1 d) := by
  obtain ⟨hv, ⟨hN, eN⟩, a, rfl, haN, hd⟩ := id hpre
  have ea : (nI a).toNatClampNeg = a := nI_clamp (by omega)
  unfold ve_X3_solveFrom
  rw [eN, ea]
  have hfull : zN ac ≤ a → (1 : Int32) = b2i (zsf cc ac fc lc f fnf (nI a)).isSome ∧ f = (zsf cc ac fc lc f fnf (nI a)).getD f := by
    intro h
    have : zsf cc ac fc lc f fnf (nI a) = some f := by
      show (zfl cc ac fc lc fnf (zN ac) (zN ac - (nI a).toNatClampNeg) f).head? = _
      rw [ea, show zN ac - a = 0 by omega]; rfl
    rw [this]; exact ⟨rfl, rfl⟩
  refine ⟨fun c => absurd c (nI_pos (by omega)), fun _ => ⟨fun c => ?_, fun c => ⟨fun c2 => ⟨?_, ?_⟩, fun c2 => ?_⟩⟩⟩
  · exact hfull (k_le (by omega) (by omega) c)
  · have c := k_nle (by omega) (by omega) c
    exact vp_in_nI (by omega) (by decide)
  · have c := k_nle (by omega) (by omega) c
    rintro y rfl
    refine ⟨hpre, by rw [ea]; exact c, rfl, 0, by decide, rfl, by rw [ea]; rfl, ?_⟩
    rw [ea]
    show _ = (zfl cc ac fc lc fnf (zN ac) (zN ac - (nI a).toNatClampNeg) f).head?
    rw [ea, show zN ac - a = zN ac - (a + 1) + 1 by omega]
    rfl
  · have c := k_nle (by omega) (by omega) c
    exact absurd ((nI_ltI (a := a) (b := 12) (by omega) (by decide)).mpr (by omega)) c2
