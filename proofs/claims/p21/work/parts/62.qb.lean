/-! hidden cells, and what lies beside them -/
theorem mrc_in {rw co g : Int32} {i : Nat} : ∀ (n : Nat) (x : Int32), bt x i = true → bt (mrc rw co g n x) i = true
  | 0, _, h => h
  | n + 1, x, h => mrc_in n _ (by rw [bt_or, h]; rfl)
section
variable {rw co : Int32} {r c N : Nat} {f bd hf : Nat → Int32} {p : Nat}
theorem hid_iff (g : gok rw co r c N) (h : FB N f bd) (hp : p < N) : zhas (zhi co (zac rw co) (zfc co r) (zlc co (zfc co r)) f) (nI p) = true ↔ bd p = 0 ∧ ∀ v k, 1 ≤ v → v < 10 → bt (f v) k = true → ¬ bt (rch rw co f v k) p = true := by
  have hN := (gN g).2
  have e1 : zhas (zhi co (zac rw co) (zfc co r) (zlc co (zfc co r)) f) (nI p) = bt (zhi co (zac rw co) (zfc co r) (zlc co (zfc co r)) f) p := by
    rw [zhas_bt, cb_nI (by omega)]
  rw [e1]
  unfold zhi
  rw [bt_and, Bool.and_eq_true, FB_0 h hN, bt_not (by omega), Bool.not_eq_true', ← Bool.not_eq_true, zhiO_iff g h 9 (Nat.le_refl _) 0]
  constructor
  · rintro ⟨⟨-, a⟩, b⟩
    exact ⟨a, fun v k h1 hv hb hr => b (Or.inr ⟨v, k, by omega, hv, hb, hr⟩)⟩
  · rintro ⟨a, b⟩
    refine ⟨⟨hp, a⟩, ?_⟩
    rintro (z | ⟨v, k, h1, hv, hb, hr⟩)
    · rw [bt_0] at z; exact absurd z (by decide)
    · exact b v k (by omega) hv hb hr
/-- a cell of a field that lacks some -/
def nea (rw co : Int32) (f bd : Nat → Int32) (j : Nat) : Prop := ∃ v, 1 ≤ v ∧ v < 10 ∧ bd j = nI v ∧ fsz rw co f v j < v
theorem hid_near (g : gok rw co r c N) (h : FB N f bd) (hp : p < N) (h0 : bd p = 0) {j : Nat} (hn : nbr c N j p) (hj : nea rw co f bd j) : zhas (zhi co (zac rw co) (zfc co r) (zlc co (zfc co r)) f) (nI p) = false := by
  have hN := (gN g).2
  obtain ⟨v, h1, hv, e, hlt⟩ := hj
  have hjN := hn.1
  have sj := one_sm g hjN
  cases hz : zhas (zhi co (zac rw co) (zfc co r) (zlc co (zfc co r)) f) (nI p) with
  | false => rfl
  | true =>
    exfalso
    refine ((hid_iff g h hp).mp hz).2 v j h1 hv ((FB_iff h hN hv).mpr ⟨hjN, e⟩) ?_
    unfold rch
    obtain ⟨m, hm⟩ : ∃ m, v - fsz rw co f v j = m + 1 := ⟨v - fsz rw co f v j - 1, by omega⟩
    rw [hm, mrc]
    apply mrc_in
    rw [bt_or, Bool.or_eq_true]
    right
    rw [bt_and, Bool.and_eq_true]
    exact ⟨(mbs_iff g (gw_sm g sj)).mpr ⟨j, gw_self g hjN, hn⟩, (FB_0 h hN).mpr ⟨hp, h0⟩⟩
theorem mrc_no (g : gok rw co r c N) (h : FB N f bd) (hno : ∀ i, nbr c N i p → ¬ bd i = 0) : ∀ (n : Nat) (x : Int32), sm N x → ¬ bt x p = true → (∀ i, bt x i = true → ¬ nbr c N i p) → ¬ bt (mrc rw co (f 0) n x) p = true
  | 0, _, _, h1, _ => h1
  | n + 1, x, hx, h1, h2 => by
    have hN := (gN g).2
    rw [mrc]
    refine mrc_no g h hno n _ (sm_or hx (sm_and (sm_mbs g hx) _)) ?_ ?_
    · rw [bt_or, Bool.or_eq_true]
      rintro (z | z)
      · exact h1 z
      · rw [bt_and, Bool.and_eq_true] at z
        obtain ⟨i, hi, hn⟩ := (mbs_iff g hx).mp z.1
        exact h2 i hi hn
    · intro i hi hn
      rw [bt_or, Bool.or_eq_true] at hi
      rcases hi with z | z
      · exact h2 i z hn
      · rw [bt_and, Bool.and_eq_true] at z
        exact hno i hn ((FB_0 h hN).mp z.2).2
theorem hid_far (g : gok rw co r c N) (h : FB N f bd) (hb : bv N bd) (hp : p < N) (h0 : bd p = 0) (hno : ∀ i, nbr c N i p → ¬ bd i = 0 ∧ ¬ nea rw co f bd i) : zhas (zhi co (zac rw co) (zfc co r) (zlc co (zfc co r)) f) (nI p) = true := by
  have hN := (gN g).2
  refine (hid_iff g h hp).mpr ⟨h0, fun v k h1 hv hk => ?_⟩
  obtain ⟨hkN, ek⟩ := (FB_iff h hN hv).mp hk
  have sk := one_sm g hkN
  have sF := gw_sm g (w := f v) sk
  have hfv : ∀ i, bt (gw rw co (f v) (zbit (nI k))) i = true → bt (f v) i = true := gw_w g sk (fun i hi => by rw [(bt_one g hkN).mp hi]; exact hk)
  have hp0 : ¬ bt (gw rw co (f v) (zbit (nI k))) p = true := fun z => by
    have := ((FB_iff h hN hv).mp (hfv p z)).2
    rw [h0] at this
    exact nI_ne0' h1 hv this.symm
  unfold rch
  by_cases hz : v - fsz rw co f v k = 0
  · rw [hz]; exact hp0
  · refine mrc_no g h (fun i hn => (hno i hn).1) _ _ sF hp0 (fun i hi hn => (hno i hn).2 ⟨v, h1, hv, ((FB_iff h hN hv).mp (hfv i hi)).2, ?_⟩)
    have := gw_same g hkN hk hi
    unfold fsz at hz ⊢
    rw [this]
    omega
theorem hid_full (g : gok rw co r c N) (h : FB N f bd) (hp : p < N) (h0 : ¬ bd p = 0) : zhas (zhi co (zac rw co) (zfc co r) (zlc co (zfc co r)) f) (nI p) = false := by
  cases hz : zhas (zhi co (zac rw co) (zfc co r) (zlc co (zfc co r)) f) (nI p) with
  | false => rfl
  | true => exact absurd ((hid_iff g h hp).mp hz).1 h0
theorem nea_sz (g : gok rw co r c N) (h : FB N f bd) (hb : bv N bd) {j : Nat} (hj : j < N) : nea rw co f bd j ↔ ¬ bd j ≤ 0 ∧ ¬ bd j ≤ szv rw co N bd j := by
  constructor
  · rintro ⟨v, h1, hv, e, hlt⟩
    rw [szv_v g h h1 hv e, e]
    have z := cn_12 (gw rw co (f v) (zbit (nI j)))
    exact ⟨Int32.not_le.mpr (pos_nI h1 hv), Int32.not_le.mpr ((nI_ltI (show fsz rw co f v j < 2 ^ 31 from z) (by omega)).mpr hlt)⟩
  · rintro ⟨a, b⟩
    rcases val_or hb hj with e | ⟨v, h1, hv, e⟩
    · rw [e] at a; exact absurd (by decide) a
    · rw [szv_v g h h1 hv e, e] at b
      refine ⟨v, h1, hv, e, ?_⟩
      have z := cn_12 (gw rw co (f v) (zbit (nI j)))
      exact (nI_ltI (show fsz rw co f v j < 2 ^ 31 from z) (by omega)).mp (Int32.not_le.mp b)
end
/-! the shapes of a field: how many have each cell -/
theorem inc_one {n0 : Nat} : ∀ (L : List Nat), inc L → (∀ x, x ∈ L → x = n0) → n0 ∈ L → L.length = 1
  | [], _, _, h => absurd h List.not_mem_nil
  | [_], _, _, _ => rfl
  | x :: y :: t, hi, ha, _ => by
    have h1 := ha x List.mem_cons_self
    have h2 := ha y (List.mem_cons_of_mem _ List.mem_cons_self)
    have := hi.1
    omega
theorem sum_ctb (N : Nat) : ∀ (L : List Nat), sumF (fun j => ctb j L) N = sumF (fun j => sumF (fun _ => 0) j + ctb j L) N
  | _ => sumF_congr N (fun v _ => by rw [sumF_0, Nat.zero_add])
theorem sum_cn (x : Int32) : ∀ N, sumF (fun j => if bt x j then 1 else 0) N = cn x N
  | 0 => rfl
  | n + 1 => by rw [sumF, sum_cn x n, cn]
theorem ctb_sum (N v : Nat) : ∀ (L : List Nat), (∀ s, s ∈ L → cn (nI s) N = v) → sumF (fun j => ctb j L) N = L.length * v
  | [], _ => by
    rw [List.length_nil, Nat.zero_mul]
    exact sumF_0 N
  | s :: L, h => by
    have e : sumF (fun j => ctb j (s :: L)) N = sumF (fun j => (if bt (nI s) j then 1 else 0) + ctb j L) N := rfl
    rw [e, sumF_add, sum_cn, h s List.mem_cons_self, ctb_sum N v L (fun x hx => h x (List.mem_cons_of_mem _ hx)), List.length_cons, Nat.succ_mul, Nat.add_comm]
theorem cn_sm {N : Nat} {x : Int32} (hx : sm N x) : ∀ k, N + k ≤ 32 → cn x (N + k) = cn x N
  | 0, _ => rfl
  | k + 1, h => by rw [← Nat.add_assoc, cn, cn_sm hx k (by omega), hx (N + k) (by omega) (by omega)]; rfl
section
variable {rw co : Int32} {r c N : Nat} {f bd : Nat → Int32} {p : Nat}
theorem shl_in (hN : N ≤ 12) {hf : Nat → Int32} {s : Nat} : s ∈ shl rw co N bd hf p ↔ s < 2 ^ N ∧ mish rw co bd (mlk rw co bd hf) (nI s) (nI p) = true := by
  unfold shl
  rw [List.mem_filter, rng_mem]
theorem sm_lt2 {N s : Nat} (hN : N ≤ 12) (h : s < 2 ^ N) : sm N (nI s) := by
  intro i h1 h2
  have h3 : 2 ^ N ≤ 2 ^ 12 := Nat.pow_le_pow_right (by decide) hN
  rw [bt_nI (by omega)]
  exact Nat.testBit_lt_two_pow (Nat.lt_of_lt_of_le h (Nat.pow_le_pow_right (by decide) h1))
/-- all that the law asks of shapes -/
theorem shapes_all (g : gok rw co r c N) (h : FB N f bd) (hb : bv N bd) (hs : SND rw co f) (hp : p < N) : ∃ (al : Nat) (wt : Nat → Nat), al ≤ 4096 ∧ (∀ swf, (zli co (zac rw co) (zfc co r) (zlc co (zfc co r)) f (nI p) swf).1 = nI al) ∧
    (∀ swf j, j < N → zsw (zli co (zac rw co) (zfc co r) (zlc co (zfc co r)) f (nI p) swf).2.2 (nI j) = nI (wt j)) ∧ (∀ j, wt j ≤ al) ∧
    (∀ v, 1 ≤ v → v < 10 → bd p = nI v → (∀ j, bt (gw rw co (f v) (zbit (nI p))) j = true → wt j = al) ∧ sumF wt N = al * v ∧ (v ≤ fsz rw co f v p → al = 1)) ∧ (bd p = 0 → al = 0) ∧ (∀ j, j < N → ¬ bd j = 0 → ¬ bd j = bd p → wt j = 0) := by
  have hN := (gN g).2
  have hzsw : ∀ (G : Nat → Int32) (j : Nat), j < N → zsw G (nI j) = G j := by
    intro G j hj
    unfold zsw
    have e1 : ¬ nI j < 0 := Int32.not_lt.mpr (by rw [← nI_0]; exact (nI_leI (by decide) (by omega)).mpr (Nat.zero_le _))
    have e2 : nI j < 12 := (nI_ltI (b := 12) (by omega) (by decide)).mpr (by omega)
    rw [if_pos ⟨e1, e2⟩, nI_clamp (by omega)]
  rcases val_or hb hp with e | ⟨v, h1, hv, e⟩
  · have ez : ∀ swf, zli co (zac rw co) (zfc co r) (zlc co (zfc co r)) f (nI p) swf = (0, 0, mz12 swf) := by
      intro swf
      unfold zli
      rw [if_pos (by rw [zat g h hb hp, e])]
    refine ⟨0, fun _ => 0, by decide, fun swf => by rw [ez]; rfl, fun swf j hj => ?_, fun _ => Nat.le_refl _, fun v h1 hv e2 => absurd (e2.symm.trans e) (nI_ne0' h1 hv), fun _ => rfl, fun _ _ _ _ => rfl⟩
    rw [ez, hzsw _ j hj]
    show mz12 swf j = nI 0
    unfold mz12
    rw [if_pos (by omega)]; rfl
  · have hmem : ∀ s, s ∈ shl rw co N bd (fun _ => 0) p → sm N (nI s) ∧ (∀ i, bt (gw rw co (f v) (zbit (nI p))) i = true → bt (nI s) i = true) ∧ (∀ i, bt (nI s) i = true → bt (gw rw co (f v ||| f 0) (zbit (nI p))) i = true) ∧ zsh co (zac rw co) (zfc co r) (zlc co (zfc co r)) f (nI s) (nI v) = true := by
      intro s hm
      obtain ⟨hs2, hm⟩ := (shl_in hN).mp hm
      have hsm := sm_lt2 hN hs2
      exact ⟨hsm, (mish_iff g h hp h1 hv e hsm).mp hm⟩
    have hcnt : ∀ s, s ∈ shl rw co N bd (fun _ => 0) p → cn (nI s) 12 = v := by
      intro s hm
      obtain ⟨a, -, -, b⟩ := hmem s hm
      unfold zsh at b
      rw [Bool.and_eq_true, Bool.and_eq_true, decide_eq_true_eq, bc_cn hN a] at b
      exact nI_inj (cn_12 _) (by omega) b.1.1
    have hfv : ∀ i, bt (gw rw co (f v ||| f 0) (zbit (nI p))) i = true → bt (f v ||| f 0) i = true := gw_w g (one_sm g hp) (fun i hi => by
      rw [(bt_one g hp).mp hi, bt_or, (FB_iff h hN hv).mpr ⟨hp, e⟩]; rfl)
    refine ⟨(shl rw co N bd (fun _ => 0) p).length, fun j => ctb j (shl rw co N bd (fun _ => 0) p), shl_len N hN, fun swf => ?_, fun swf j hj => ?_, fun j => ctb_le j _, fun w hw1 hw2 e2 => ?_, fun e2 => absurd (e.symm.trans e2) (nI_ne0' h1 hv), fun j hj hj0 hjp => ?_⟩
    · rw [zli_1 g h hp h1 hv e (hf := fun _ => 0) swf, msO_ctw g h hp h1 hv e, ctw_0]
    · rw [hzsw _ j hj, zli_3 g h hp h1 hv e (hf := fun _ => 0) swf hj, msO_ctw g h hp h1 hv e, ctw_bit g hj]
    · obtain rfl : w = v := nI_inj (by omega) (by omega) (e2.symm.trans e)
      refine ⟨fun j hj => (ctb_all j _).mpr (fun s hm => (hmem s hm).2.1 j hj), ctb_sum N w _ (fun s hm => ?_), fun hle => ?_⟩
      · have a := (hmem s hm).1
        have := cn_sm a (12 - N) (by omega)
        rw [show N + (12 - N) = 12 by omega, hcnt s hm] at this
        exact this.symm
      · have s1 := one_sm g hp
        have sF := gw_sm g (w := f w) s1
        have hfw : bt (f w) p = true := (FB_iff h hN hv).mpr ⟨hp, e⟩
        have hszw : fsz rw co f w p = w := Nat.le_antisymm (hs w hw1 hw2 p hfw).1 hle
        obtain ⟨n0, hn0, en0⟩ := sm_nI hN sF
        have hn2 : n0 < 2 ^ N := by
          apply Nat.lt_pow_two_of_testBit
          intro i hi
          by_cases hi2 : i < 32
          · have := sF i hi hi2
            rw [en0, bt_nI (by omega)] at this
            exact this
          · exact Nat.testBit_lt_two_pow (Nat.lt_of_lt_of_le hn0 (by rw [show (4096 : Nat) = 2 ^ 12 by decide]; exact Nat.pow_le_pow_right (by decide) (by omega)))
        have hall : ∀ s, s ∈ shl rw co N bd (fun _ => 0) p → s = n0 := by
          intro s hm
          have hm2 := hmem s hm
          have hsl : s < 2 ^ N := ((shl_in hN).mp hm).1
          have h3 : 2 ^ N ≤ 2 ^ 12 := Nat.pow_le_pow_right (by decide) hN
          have : nI s = nI n0 := by
            rw [← en0]
            apply bt_eq
            intro i
            refine ⟨fun hi => ?_, hm2.2.1 i⟩
            cases hb2 : bt (gw rw co (f w) (zbit (nI p))) i with
            | true => rfl
            | false =>
              have hiN := sm_lt hm2.1 hi
              have := cn_lt hm2.2.1 hb2 hi 12 (by omega)
              rw [hcnt s hm] at this
              unfold fsz at hszw
              omega
          exact nI_inj (by omega) (by omega) this
        refine inc_one _ (inc_filter _ _ (rng_inc _)) hall ((shl_in hN).mpr ⟨hn2, ?_⟩)
        rw [← en0, mish_iff g h hp hw1 hw2 e sF]
        refine ⟨fun i hi => hi, gw_mono g s1 (fun i hi => by rw [bt_or, hi]; rfl), ?_⟩
        unfold zsh
        rw [Bool.and_eq_true, Bool.and_eq_true, decide_eq_true_eq, decide_eq_true_eq, decide_eq_true_eq, bc_cn hN sF, zcw_nI hw2, zbs_mbs g sF]
        refine ⟨⟨congrArg nI hszw, ?_⟩, ?_⟩
        · apply bt_ext
          intro i hi
          rw [bt_and, bt_and, bt_not hi, bt_0]
          cases hx : bt (mbs rw co (gw rw co (f w) (zbit (nI p)))) i with
          | false => rfl
          | true =>
            cases hy : bt (f w) i with
            | false => rw [Bool.and_false]
            | true =>
              obtain ⟨a, ha, hn⟩ := (mbs_iff g sF).mp hx
              rw [gw_shut g s1 a i ha hn hy]; rfl
        · have hk0 : ¬ gw rw co (f w) (zbit (nI p)) = 0 := fun z => by
            have := gw_self g hp (w := f w)
            rw [z, bt_0] at this
            exact absurd this (by decide)
          obtain ⟨k0, hk0N, hb0, e0⟩ := low_one hN sF hk0
          rw [e0, zsp_gw g (one_sm g hk0N)]
          have sub1 := gw_w g (w := gw rw co (f w) (zbit (nI p))) (one_sm g hk0N) (fun i hi => by rw [(bt_one g hk0N).mp hi]; exact hb0)
          apply bt_eq
          intro i
          refine ⟨sub1 i, fun hi => ?_⟩
          have e3 : gw rw co (f w) (zbit (nI k0)) = gw rw co (f w) (zbit (nI p)) := gw_same g hp hfw hb0
          rw [← e3] at hi
          refine gw_in g (one_sm g hk0N) (y := gw rw co (gw rw co (f w) (zbit (nI p))) (zbit (nI k0))) (fun a b ha hn hbw => ?_) (fun i hi => gw_sub hi) i hi
          refine gw_shut g (one_sm g hk0N) a b ha hn ?_
          exact gw_shut g s1 a b (sub1 a ha) hn hbw
    · have : ∀ L : List Nat, (∀ s, s ∈ L → bt (nI s) j = false) → ctb j L = 0 := by
        intro L
        induction L with
        | nil => intro _; rfl
        | cons s L ih =>
          intro hL
          rw [ctb, hL s List.mem_cons_self, ih (fun s hs => hL s (List.mem_cons_of_mem _ hs))]; rfl
      refine this _ (fun s hm => ?_)
      cases hbs : bt (nI s) j with
      | false => rfl
      | true =>
        exfalso
        have := hfv j ((hmem s hm).2.2.1 j hbs)
        rw [bt_or, Bool.or_eq_true] at this
        rcases this with z | z
        · exact hjp (((FB_iff h hN hv).mp z).2.trans e.symm)
        · exact hj0 ((FB_0 h hN).mp z).2
end
