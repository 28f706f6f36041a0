/-! the rules keep the solutions; what the law computes of them -/
section
variable {rw co : Int32} {r c N : Nat} {f bd hf : Nat → Int32}
theorem mrunF_why {a : Int32} {H : Nat → Int32} {q : Nat × Int32} : ∀ j, j ≤ N → mrunF rw co bd H a N j = some q → q.1 < N ∧ bd q.1 = 0 ∧ 0 < mrun1 rw co bd H a (nI q.1) ∧ q.2 = mrun1 rw co bd H a (nI q.1)
  | 0, _, h => by rw [mrunF] at h; cases h
  | j + 1, hj, h => by
    rw [mrunF] at h
    split at h
    · next hc =>
      have h := Option.some.inj h
      rw [← h]
      exact ⟨by show N - (j + 1) < N; omega, hc.1, hc.2, rfl⟩
    · exact mrunF_why j (by omega) h
theorem cnN_uniq {k w v : Nat} (h1 : 1 ≤ w) (hw : w < v) (hv : v < 10) (a : mft rw co bd hf (nI k) (nI w) = true) (b : mft rw co bd hf (nI k) (nI v) = true) : 2 ≤ cnN rw co bd hf k 9 := by
  obtain ⟨w, rfl⟩ : ∃ z, w = z + 1 := ⟨w - 1, by omega⟩
  obtain ⟨v, rfl⟩ : ∃ z, v = z + 1 := ⟨v - 1, by omega⟩
  have e1 : cnN rw co bd hf k (w + 1) = cnN rw co bd hf k w + 1 := by rw [cnN, if_pos a]
  have e2 : cnN rw co bd hf k (v + 1) = cnN rw co bd hf k v + 1 := by rw [cnN, if_pos b]
  have m1 := cnN_mono (rw := rw) (co := co) (bd := bd) (hf := hf) (k := k) (a := w + 1) v (by omega)
  have m2 := cnN_mono (rw := rw) (co := co) (bd := bd) (hf := hf) (k := k) (a := v + 1) 9 (by omega)
  omega
theorem monr_one {k v : Nat} (h1 : 1 ≤ v) (hv : v < 10) (h : monr rw co bd hf (nI k) = nI v) : cnN rw co bd hf k 9 = 1 := by
  unfold monr at h
  split at h
  · next e =>
    rw [mon_2] at e
    have := cnN_le (rw := rw) (co := co) (bd := bd) (hf := hf) (k := k) 9
    exact nI_inj (by omega) (by decide) (e.trans (show (1 : Int32) = nI 1 from rfl))
  · exact absurd h.symm (nI_ne0' h1 hv)
theorem one_nb (g : gok rw co r c N) {w : Int32} {k : Nat} (hk : k < N) (h : ∀ j, nbr c N k j → ¬ bt w j = true) : cn (gw rw co w (zbit (nI k))) 12 ≤ 1 := by
  have hN := (gN g).2
  have sub : ∀ i, bt (gw rw co w (zbit (nI k))) i = true → bt (zbit (nI k)) i = true := gw_in g (one_sm g hk) (fun i j hi hn hw => by
    rw [bt_one g hk] at hi
    rw [hi] at hn
    exact absurd hw (h j hn)) (fun i hi => hi)
  have h1 : ∀ k, k < 12 → cn (zbit (nI k)) 12 = 1 := by decide +kernel
  have := cn_mono sub 12
  rw [h1 k (by omega)] at this
  exact this
/-- a hidden cell without empty neighbours: 1 alone can be put -/
theorem hid_1 (g : gok rw co r c N) (h : FB N f bd) (hb : bv N bd) (hs : SND rw co f) {k w : Nat} (hk : k < N) (h0 : bd k = 0) (hhid : zhas (zhi co (zac rw co) (zfc co r) (zlc co (zfc co r)) f) (nI k) = true) (hne : ∀ j, nbr c N k j → ¬ bd j = 0) (h1 : 1 ≤ w) (hw : w < 10) (hm : mft rw co bd hf (nI k) (nI w) = true) : w = 1 := by
  have hN := (gN g).2
  apply Classical.byContradiction
  intro hw1
  have h' := zwr_FB h hN hk hw
  have hb' := bv_upd hb (k := k) hw
  unfold mft at hm
  rw [Bool.and_eq_true, nI_clamp (by omega)] at hm
  have hS := (mso_iff g h' hb').mp hm.2
  have hkb : bt (zwr f (nI k) (nI w) w) k = true := (FB_iff h' hN hw).mpr ⟨hk, by unfold upd; rw [if_pos rfl]⟩
  obtain ⟨a, b⟩ := hS w h1 hw k hkb
  have : ∃ j, nbr c N k j ∧ bt (zwr f (nI k) (nI w) w ||| zwr f (nI k) (nI w) 0) j = true := by
    apply Classical.byContradiction
    intro hno
    have := one_nb g (w := zwr f (nI k) (nI w) w ||| zwr f (nI k) (nI w) 0) hk (fun j hn hj => hno ⟨j, hn, hj⟩)
    unfold rsz at b
    omega
  obtain ⟨j, hn, hj⟩ := this
  have hnk : nbr c N j k := nbr_symm (gc3 g) hn
  have hjk : ¬ j = k := fun z => by
    rw [z] at hn
    unfold nbr at hn
    have hc := gc3 g
    omega
  have hj0 := hne j hn
  rw [bt_or, Bool.or_eq_true] at hj
  have hjw : bd j = nI w := by
    rcases hj with z | z
    · have := ((FB_iff h' hN hw).mp z).2
      unfold upd at this
      rwa [if_neg hjk] at this
    · have := ((FB_0 h' hN).mp z).2
      unfold upd at this
      rw [if_neg hjk] at this
      exact absurd this hj0
  have hjN := hn.2.1
  have sj := one_sm g hjN
  have sk := one_sm g hk
  have hjf : bt (f w) j = true := (FB_iff h hN hw).mpr ⟨hjN, hjw⟩
  have subw : ∀ i, bt (f w) i = true → bt (zwr f (nI k) (nI w) w) i = true := fun i hi => by
    obtain ⟨hiN, ei⟩ := (FB_iff h hN hw).mp hi
    exact (FB_iff h' hN hw).mpr ⟨hiN, by
      unfold upd
      split
      · rfl
      · exact ei⟩
  have hjb : bt (gw rw co (zwr f (nI k) (nI w) w) (zbit (nI k))) j = true := gw_shut g sk k j (gw_self g hk) hn (subw j hjf)
  have hsub : ∀ i, bt (gw rw co (f w) (zbit (nI j))) i = true → bt (gw rw co (zwr f (nI k) (nI w) w) (zbit (nI k))) i = true := fun i hi => by
    rw [← gw_same g hk hkb hjb]
    exact gw_mono g sj subw i hi
  have hkn : bt (gw rw co (f w) (zbit (nI j))) k = false := by
    cases hz : bt (gw rw co (f w) (zbit (nI j))) k with
    | false => rfl
    | true =>
      have := gw_w g sj (fun i hi => by rw [(bt_one g hjN).mp hi]; exact hjf) k hz
      have := ((FB_iff h hN hw).mp this).2
      rw [h0] at this
      exact absurd this.symm (nI_ne0' h1 hw)
  have hlt := cn_lt hsub hkn (gw_self g hk) 12 (by omega)
  have := hid_near g h hk h0 hnk ⟨w, h1, hw, hjw, by unfold fsz at a ⊢; omega⟩
  rw [this] at hhid
  exact absurd hhid (by decide)
/-- a cell that all shapes of a field have: its number is the field's in all solutions -/
theorem alls_sol (g : gok rw co r c N) (h : FB N f bd) (hb : bv N bd) {k i v : Nat} (hk : k < N) (hi : i < N) (h1 : 1 ≤ v) (hv : v < 10) (e : bd k = nI v) (ha : alls rw co bd hf k i) {x : Nat → Int32} (hx : bv N x) (hS : mso rw co x (fun _ => 0) = true) (hF : FUL N x) (hE : ∀ j, ¬ (j < N ∧ bd j = 0) → x j = bd j) : x i = nI v := by
  have hN := (gN g).2
  have hFx := FB_fob hN x
  have hSx := (SND_mso g hFx hx (fun _ => 0)).mpr hS
  have exk : x k = nI v := (hE k (fun z => nI_ne0' h1 hv (e.symm.trans z.2))).trans e
  have hkx : bt (fob N x v) k = true := (FB_iff hFx hN hv).mpr ⟨hk, exk⟩
  have sk := one_sm g hk
  have sX := gw_sm g (w := fob N x v) sk
  obtain ⟨a, b⟩ := hSx v h1 hv k hkx
  have hx0 : fob N x 0 = 0 := bt_eq (fun j => by
    rw [FB_0 hFx hN, bt_0]
    exact ⟨fun z => absurd z.2 (hF j z.1), fun z => absurd z (by decide)⟩)
  have hrs : rsz rw co (fob N x) v k = fsz rw co (fob N x) v k := by
    unfold rsz fsz
    rw [hx0, show fob N x v ||| 0 = fob N x v from Int32.or_zero]
  have hsz : cn (gw rw co (fob N x v) (zbit (nI k))) 12 = v := by
    rw [hrs] at b
    unfold fsz at a b
    omega
  obtain ⟨s, hs4, es⟩ := sm_nI hN sX
  have hs2 : s < 2 ^ N := by
    apply Nat.lt_pow_two_of_testBit
    intro j hj
    by_cases hj2 : j < 32
    · have := sX j hj hj2
      rw [es, bt_nI (by omega)] at this
      exact this
    · exact Nat.testBit_lt_two_pow (Nat.lt_of_lt_of_le hs4 (by rw [show (4096 : Nat) = 2 ^ 12 by decide]; exact Nat.pow_le_pow_right (by decide) (by omega)))
  have subx : ∀ j, bt (fob N x v) j = true → bt (f v ||| f 0) j = true := fun j hj => by
    obtain ⟨hjN, ej⟩ := (FB_iff hFx hN hv).mp hj
    rw [bt_or, Bool.or_eq_true]
    by_cases hz : bd j = 0
    · exact Or.inr ((FB_0 h hN).mpr ⟨hjN, hz⟩)
    · exact Or.inl ((FB_iff h hN hv).mpr ⟨hjN, (hE j (fun z => hz z.2)).symm.trans ej⟩)
  have subf : ∀ j, bt (f v) j = true → bt (fob N x v) j = true := fun j hj => by
    obtain ⟨hjN, ej⟩ := (FB_iff h hN hv).mp hj
    exact (FB_iff hFx hN hv).mpr ⟨hjN, (hE j (fun z => nI_ne0' h1 hv (ej.symm.trans z.2))).trans ej⟩
  have hmem : s ∈ shl rw co N bd hf k := by
    refine (shl_in hN).mpr ⟨hs2, ?_⟩
    rw [← es, mish_iff g h hk h1 hv e sX]
    refine ⟨gw_mono g sk subf, gw_mono g sk subx, ?_⟩
    unfold zsh
    rw [Bool.and_eq_true, Bool.and_eq_true, decide_eq_true_eq, decide_eq_true_eq, decide_eq_true_eq, bc_cn hN sX, zcw_nI hv, zbs_mbs g sX]
    refine ⟨⟨congrArg nI hsz, ?_⟩, ?_⟩
    · apply bt_ext
      intro j hj
      rw [bt_and, bt_and, bt_not hj, bt_0]
      cases hy : bt (f v) j with
      | false => rw [Bool.and_false]
      | true =>
        cases hm : bt (mbs rw co (gw rw co (fob N x v) (zbit (nI k)))) j with
        | false => rfl
        | true =>
          obtain ⟨q, hq, hn⟩ := (mbs_iff g sX).mp hm
          rw [gw_shut g sk q j hq hn (subf j hy)]; rfl
    · have hk0 : ¬ gw rw co (fob N x v) (zbit (nI k)) = 0 := fun z => by
        have := gw_self g hk (w := fob N x v)
        rw [z, bt_0] at this
        exact absurd this (by decide)
      obtain ⟨k0, hk0N, hb0, e0⟩ := low_one hN sX hk0
      rw [e0, zsp_gw g (one_sm g hk0N)]
      have sub1 := gw_w g (w := gw rw co (fob N x v) (zbit (nI k))) (one_sm g hk0N) (fun j hj => by rw [(bt_one g hk0N).mp hj]; exact hb0)
      apply bt_eq
      intro j
      refine ⟨sub1 j, fun hj => ?_⟩
      have e3 : gw rw co (fob N x v) (zbit (nI k0)) = gw rw co (fob N x v) (zbit (nI k)) := gw_same g hk hkx hb0
      rw [← e3] at hj
      refine gw_in g (one_sm g hk0N) (y := gw rw co (gw rw co (fob N x v) (zbit (nI k))) (zbit (nI k0))) (fun p q hp hn hq => ?_) (fun i hi => gw_sub hi) j hj
      refine gw_shut g (one_sm g hk0N) p q hp hn ?_
      exact gw_shut g sk p q (sub1 p hp) hn hq
  unfold alls at ha
  have hl : (shl rw co N bd hf k).length ≤ 4096 := shl_len N hN
  have hl2 := ctb_le i (shl rw co N bd hf k)
  rw [msO_ctw g h hk h1 hv e, msO_ctw g h hk h1 hv e, ctw_0, ctw_bit g hi, nI_eq (by omega) (by omega), ctb_all] at ha
  have := ha.2 s hmem
  rw [← es] at this
  exact ((FB_iff hFx hN hv).mp (gw_w g sk (fun j hj => by rw [(bt_one g hk).mp hj]; exact hkx) i this)).2
/-- a rule's cell has the rule's number in every solution -/
theorem run_sol (g : gok rw co r c N) (h : FB N f bd) (hb : bv N bd) (hs : SND rw co f) {a : Int32} (ha : a = 0 ∨ a = 1 ∨ a = 2) {q : Nat × Int32} (hq : mrunF rw co bd (mlk rw co bd hf) a N N = some q) : ∃ v, 1 ≤ v ∧ v < 10 ∧ q.2 = nI v ∧ q.1 < N ∧ bd q.1 = 0 ∧ mft rw co bd (mlk rw co bd hf) (nI q.1) (nI v) = true ∧ ∀ x, x ∈ mall0 rw co bd (fun _ => 0) → x q.1 = nI v := by
  have hN := (gN g).2
  have hms := (SND_mso g h hb (fun _ => 0)).mp hs
  obtain ⟨a1, a2, a3, a4⟩ := mrunF_why N (Nat.le_refl _) hq
  obtain ⟨v, h1, hv, e, hm⟩ := run_P (hf := hf) g h hb hs ha q.1 a1 a3
  refine ⟨v, h1, hv, a4.trans e, a1, a2, hm, fun x hx => ?_⟩
  obtain ⟨w, hw1, hw, ew, hwm⟩ := sol_fits g hb hms hx a1 a2 (mlk rw co bd hf)
  rcases ha with rfl | rfl | rfl
  · have e : monr rw co bd (mlk rw co bd hf) (nI q.1) = nI v := e
    have h9 := monr_one h1 hv e
    rcases Nat.lt_trichotomy w v with z | z | z
    · have := cnN_uniq hw1 z hv hwm hm; omega
    · rw [ew, z]
    · have := cnN_uniq h1 z hw hm hwm; omega
  · rcases mrunF1_spec (hf := hf) g h hb hs N (Nat.le_refl _) with ⟨i, k, -, hi, hk, -, hf1, -, e2⟩ | ⟨-, e2⟩
    · rw [e2] at hq
      have hq := Option.some.inj hq
      have q1 : i = q.1 := congrArg Prod.fst hq
      have q2 : bd k = q.2 := congrArg Prod.snd hq
      obtain ⟨u, hu1, hu, eu, -, hal, -⟩ := hf1
      have huv : u = v := nI_inj (by omega) (by omega) (eu.symm.trans (q2.trans (a4.trans e)))
      subst huv
      subst q1
      obtain ⟨⟨b1, b2, b3⟩, b4⟩ := (sol_iff g hb hms x).mp hx
      exact alls_sol g h hb hk hi hu1 hu eu hal b1 b2 b3 b4
    · rw [e2] at hq; cases hq
  · have e : (if mhn rw co bd (mlk rw co bd hf) (nI q.1) then (1 : Int32) else 0) = nI v := e
    have hmh : mhn rw co bd (mlk rw co bd hf) (nI q.1) = true := by
      cases hz : mhn rw co bd (mlk rw co bd hf) (nI q.1) with
      | true => rfl
      | false => rw [hz] at e; exact absurd e.symm (nI_ne0' h1 hv)
    have hv1 : v = 1 := by
      rw [hmh, if_pos rfl] at e
      exact (nI_inj (by decide) (by omega) ((show nI 1 = (1 : Int32) from rfl).trans e)).symm
    unfold mhn at hmh
    rw [Bool.and_eq_true, Bool.and_eq_true, decide_eq_true_eq, ← zhi_mhd g h hb a1, mlk_FB g h (by decide)] at hmh
    have hne : ∀ j, nbr c N q.1 j → ¬ bd j = 0 := fun j hn hz => by
      have h3 : bt (mbs rw co (zbit (nI q.1)) &&& f 0) j = true := by
        rw [bt_and, Bool.and_eq_true]
        exact ⟨(mbs_iff g (one_sm g a1)).mpr ⟨q.1, (bt_one g a1).mpr rfl, hn⟩, (FB_0 h hN).mpr ⟨hn.2.1, hz⟩⟩
      rw [hmh.1.2, bt_0] at h3
      exact absurd h3 (by decide)
    have := hid_1 g h hb hs a1 a2 hmh.1.1 hne hw1 hw hwm
    rw [ew, this, hv1]
theorem zcs_len (g : gok rw co r c N) (h : FB N f bd) (hb : bv N bd) (hs : SND rw co f) (most : Int32) : zcs co (zac rw co) (zfc co r) (zlc co (zfc co r)) f 0 most = (if (mall0 rw co bd (fun _ => 0)).length < most.toNatClampNeg then nI (mall0 rw co bd (fun _ => 0)).length else most) := zcs_eq g (gf := fun _ => 0) (fun _ _ => rfl) h hb hs most
theorem run_keep (g : gok rw co r c N) (h : FB N f bd) (hb : bv N bd) (hs : SND rw co f) {a : Int32} (ha : a = 0 ∨ a = 1 ∨ a = 2) {q : Nat × Int32} (hq : mrunF rw co bd (mlk rw co bd hf) a N N = some q) {f' : Nat → Int32} (h' : FB N f' (upd bd q.1 q.2)) (hs' : SND rw co f') (most : Int32) : zcs co (zac rw co) (zfc co r) (zlc co (zfc co r)) f' 0 most = zcs co (zac rw co) (zfc co r) (zlc co (zfc co r)) f 0 most := by
  have hms := (SND_mso g h hb (fun _ => 0)).mp hs
  obtain ⟨v, h1, hv, e, hk, h0, hm, hall⟩ := run_sol g h hb hs ha hq
  rw [e] at h'
  have hb' := bv_upd hb (k := q.1) hv
  have hms' := (SND_mso g h' hb' (fun _ => 0)).mp hs'
  rw [zcs_len g h hb hs, zcs_len g h' hb' hs', sol_keep g hb hms hk h0 h1 hv hms' hall]
end
/-! what the law tells of the all-shapes rule: the lowest cell of all fields decides -/
section
variable {rw co : Int32} {r c N : Nat} {f bd hf : Nat → Int32}
def frw (rw co : Int32) (bd hf : Nat → Int32) (k i : Nat) : Prop := ∃ v, 1 ≤ v ∧ v < 10 ∧ bd k = nI v ∧ alls rw co bd hf k i ∧ mft rw co bd (mlk rw co bd hf) (nI i) (nI v) = true
theorem frw_low (g : gok rw co r c N) (h : FB N f bd) (hb : bv N bd) (hs : SND rw co f) {k i : Nat} (hk : k < N) (hi : i < N) (hw : frw rw co bd hf k i) : ∃ m, m ≤ k ∧ bd m = bd k ∧ frc rw co f bd hf m i := by
  have hN := (gN g).2
  obtain ⟨v, h1, hv, e, ha, hm⟩ := hw
  have sk := one_sm g hk
  have sF := gw_sm g (w := f v) sk
  have hkf : bt (f v) k = true := (FB_iff h hN hv).mpr ⟨hk, e⟩
  have hk0 : ¬ gw rw co (f v) (zbit (nI k)) = 0 := fun z => by
    have := gw_self g hk (w := f v)
    rw [z, bt_0] at this
    exact absurd this (by decide)
  have hex : ∃ m, bt (gw rw co (f v) (zbit (nI k))) m = true ∧ ∀ j, bt (gw rw co (f v) (zbit (nI k))) j = true → m ≤ j := by
    have : ∀ n, (∃ m, m ≤ n ∧ bt (gw rw co (f v) (zbit (nI k))) m = true) → ∃ m, bt (gw rw co (f v) (zbit (nI k))) m = true ∧ ∀ j, bt (gw rw co (f v) (zbit (nI k))) j = true → m ≤ j := by
      intro n
      induction n with
      | zero =>
        rintro ⟨m, hm, hb⟩
        exact ⟨m, hb, fun j _ => by omega⟩
      | succ n ih =>
        rintro ⟨m, hm, hb⟩
        by_cases hz : ∃ m, m ≤ n ∧ bt (gw rw co (f v) (zbit (nI k))) m = true
        · exact ih hz
        · refine ⟨m, hb, fun j hj => ?_⟩
          apply Classical.byContradiction
          intro hlt
          exact hz ⟨j, by omega, hj⟩
    exact this k ⟨k, Nat.le_refl _, gw_self g hk⟩
  obtain ⟨m, hmF, hmin⟩ := hex
  have hmN := sm_lt sF hmF
  have hsame := gw_same g hk hkf hmF
  have hmf : bt (f v) m = true := gw_w g sk (fun i hi => by rw [(bt_one g hk).mp hi]; exact hkf) m hmF
  have em := ((FB_iff h hN hv).mp hmf).2
  have hshl : shl rw co N bd hf m = shl rw co N bd hf k := by
    refine inc_eq _ _ (inc_filter _ _ (rng_inc _)) (inc_filter _ _ (rng_inc _)) (fun s => ?_)
    show s ∈ shl rw co N bd hf m ↔ s ∈ shl rw co N bd hf k
    rw [shl_in hN, shl_in hN]
    refine and_congr_right (fun hs2 => ?_)
    have hsm := sm_lt2 hN hs2
    have hmr : gw rw co (f v ||| f 0) (zbit (nI m)) = gw rw co (f v ||| f 0) (zbit (nI k)) := gw_same g hk (by rw [bt_or, hkf]; rfl) (gw_mono g sk (fun i hi => by rw [bt_or, hi]; rfl) m hmF)
    rw [mish_iff g h hmN h1 hv em hsm, mish_iff g h hk h1 hv e hsm, hsame, hmr]
  refine ⟨m, hmin k (gw_self g hk), em.trans e.symm, v, h1, hv, em, fun j hj => hmin j (by rw [← hsame]; exact hj), ?_, hm⟩
  unfold alls at ha ⊢
  rw [msO_ctw g h hk h1 hv e, msO_ctw g h hk h1 hv e] at ha
  rw [msO_ctw g h hmN h1 hv em, msO_ctw g h hmN h1 hv em, hshl]
  exact ha
theorem frc_frw {k i : Nat} (h : frc rw co f bd hf k i) : frw rw co bd hf k i := by
  obtain ⟨v, h1, hv, e, -, ha, hm⟩ := h
  exact ⟨v, h1, hv, e, ha, hm⟩
/-- the law's walk from the last cell down: the lowest field that decides -/
theorem shp_end (g : gok rw co r c N) (h : FB N f bd) (hb : bv N bd) (hs : SND rw co f) {i : Nat} (hi : i < N) {x d : Int32}
    (hx : (∃ k, k < N ∧ frw rw co bd hf k i ∧ (∀ k2, k2 < k → ¬ frw rw co bd hf k2 i) ∧ x = 10 * nI i + bd k) ∨ ((∀ k, k < N → ¬ frw rw co bd hf k i) ∧ x = d)) :
    x = if bd i = 0 ∧ 0 < mshn rw co bd (mlk rw co bd hf) (nI i) N N then 10 * nI i + mshn rw co bd (mlk rw co bd hf) (nI i) N N else d := by
  have hN := (gN g).2
  rcases mshn_spec (hf := hf) g h hb hs hi N (Nat.le_refl _) with ⟨k, -, hk, hf1, hmin, e⟩ | ⟨hno, e⟩
  · have hmin : ∀ k2, k2 < k → ¬ frc rw co f bd hf k2 i := fun k2 h2 => hmin k2 (by omega) h2
    obtain ⟨v, h1, hv, ev, -, -, hm⟩ := id hf1
    have hi0 : bd i = 0 := mft_0 (by omega) hm
    rw [e, ev, if_pos ⟨hi0, pos_nI h1 hv⟩]
    rcases hx with ⟨k', hk', hw, hmin', ex⟩ | ⟨hno, -⟩
    · obtain ⟨m, hmk, em, hfm⟩ := frw_low g h hb hs hk' hi hw
      have e1 : k' = m := Nat.le_antisymm (Nat.le_of_not_lt (fun z => hmin' m z (frc_frw hfm))) hmk
      have e2 : m ≤ k := by rw [← e1]; exact Nat.le_of_not_lt (fun z => hmin' k z (frc_frw hf1))
      have e3 : k ≤ m := Nat.le_of_not_lt (fun z => hmin m z hfm)
      rw [ex, e1, show m = k by omega, ev]
    · exact absurd (frc_frw hf1) (hno k hk)
  · rw [e, if_neg (fun z => absurd z.2 (by decide))]
    rcases hx with ⟨k', hk', hw, -, -⟩ | ⟨-, ex⟩
    · obtain ⟨m, hmk, -, hfm⟩ := frw_low g h hb hs hk' hi hw
      exact absurd hfm (hno m (by omega) (by omega))
    · exact ex
end
