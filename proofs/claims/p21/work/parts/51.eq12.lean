/-! a shape, by the class and by the reference -/
theorem and_sub {x y : Int32} : x &&& y = y ↔ ∀ i, bt y i = true → bt x i = true := by
  constructor
  · intro h i hi
    rw [← h, bt_and, Bool.and_eq_true] at hi
    exact hi.1
  · intro h
    apply bt_eq
    intro i
    rw [bt_and, Bool.and_eq_true]
    exact ⟨fun z => z.2, fun z => ⟨h i z, z⟩⟩
theorem and_non {N : Nat} (hN : N ≤ 12) {x w : Int32} (hx : sm N x) : x &&& (w ^^^ (-1)) = 0 ↔ ∀ i, bt x i = true → bt w i = true := by
  constructor
  · intro h i hi
    have hiN := sm_lt hx hi
    have := congrArg (fun z => bt z i) h
    simp only [bt_and, bt_0, hi, Bool.true_and] at this
    rw [bt_not (by omega)] at this
    simpa using this
  · intro h
    apply bt_ext
    intro i hi
    rw [bt_and, bt_not hi, bt_0]
    cases hb : bt x i
    · rfl
    · rw [h i hb]; rfl
section
variable {rw co : Int32} {r c N : Nat} {f bd hf : Nat → Int32} {k v : Nat}
theorem mish_iff (g : gok rw co r c N) (h : FB N f bd) (hk : k < N) (h1 : 1 ≤ v) (hv : v < 10) (e : bd k = nI v) {x : Int32} (hx : sm N x) :
    mish rw co bd (mlk rw co bd hf) x (nI k) = true ↔ (∀ i, bt (gw rw co (f v) (zbit (nI k))) i = true → bt x i = true) ∧ (∀ i, bt x i = true → bt (gw rw co (f v ||| f 0) (zbit (nI k))) i = true) ∧ zsh co (zac rw co) (zfc co r) (zlc co (zfc co r)) f x (nI v) = true := by
  have hN := (gN g).2
  have s1 := one_sm g hk
  unfold mish zsh
  rw [nI_clamp (by omega), e, nI_clamp (by omega), mlk_FB g h hv, mlk_FB g h (by decide), mfo_gw g h hk hv e, mgr_33 g s1, bc_cn hN hx, mcn_cn hN hx 12 (by decide), zcw_nI hv, zbs_mbs g hx]
  simp only [Bool.and_eq_true, decide_eq_true_eq]
  rw [and_sub, and_non hN hx]
  have hw : ∀ i, bt (gw rw co (f v ||| f 0) (zbit (nI k))) i = true → bt (f v ||| f 0) i = true := gw_w g s1 (fun i hi => by
    rw [(bt_one g hk).mp hi, bt_or, (FB_iff h hN hv).mpr ⟨hk, e⟩]; rfl)
  constructor
  · rintro ⟨⟨z1, z2⟩, ⟨z3, z4⟩, z5⟩
    have hkx : bt x k = true := z3 k (gw_self g hk)
    have h0 : ¬ x = 0 := by intro q; rw [q, bt_0] at hkx; exact absurd hkx (by decide)
    obtain ⟨k0, hk0, hb0, e0⟩ := low_one hN hx h0
    refine ⟨z3, fun i hi => ?_, ⟨z1, z5⟩, ?_⟩
    · rw [← z4] at hi
      exact gw_mono g s1 z2 i hi
    · rw [e0, zsp_gw g (one_sm g hk0)]
      have : bt (gw rw co x (zbit (nI k))) k0 = true := by rw [z4]; exact hb0
      rw [gw_same g hk hkx this, z4]
  · rintro ⟨z3, z6, ⟨z1, z5⟩, z7⟩
    have hkx : bt x k = true := z3 k (gw_self g hk)
    have h0 : ¬ x = 0 := by intro q; rw [q, bt_0] at hkx; exact absurd hkx (by decide)
    obtain ⟨k0, hk0, hb0, e0⟩ := low_one hN hx h0
    rw [e0, zsp_gw g (one_sm g hk0)] at z7
    refine ⟨⟨z1, fun i hi => hw i (z6 i hi)⟩, ⟨z3, ?_⟩, z5⟩
    have : bt (gw rw co x (zbit (nI k0))) k = true := by rw [z7]; exact hkx
    rw [gw_same g hk0 hb0 this, z7]
/-- the shapes of the cell k, from the smallest on -/
def shl (rw co : Int32) (N : Nat) (bd hf : Nat → Int32) (k : Nat) : List Nat := (rng (2 ^ N)).filter (fun s => mish rw co bd (mlk rw co bd hf) (nI s) (nI k))
theorem zli_shl (g : gok rw co r c N) (h : FB N f bd) (hk : k < N) (h1 : 1 ≤ v) (hv : v < 10) (e : bd k = nI v) (swf : Nat → Int32) :
    zli co (zac rw co) (zfc co r) (zlc co (zfc co r)) f (nI k) swf = (shl rw co N bd hf k).foldl (fun q s => zn3 q (nI s)) (0, 0, mz12 swf) := by
  have hN := (gN g).2
  have s1 := one_sm g hk
  have sD := gw_sm g (w := f v) s1
  have sR := gw_sm g (w := f v ||| f 0) s1
  obtain ⟨D, hD, eD⟩ := sm_nI hN sD
  obtain ⟨F, hF, eF⟩ := sm_nI hN (sm_and sR (gw rw co (f v) (zbit (nI k)) ^^^ (-1)))
  have hDF : D &&& F = 0 := by
    apply nI_inj (Nat.lt_of_le_of_lt Nat.and_le_left (by omega)) (by decide)
    rw [← nI_and (by omega) (by omega), ← eD, ← eF, nI_0]
    apply bt_ext
    intro i hi
    rw [bt_and, bt_and, bt_not hi, bt_0]
    cases bt (gw rw co (f v) (zbit (nI k))) i <;> simp
  have hor : ∀ a, a &&& F = a → D ||| a = D + a := by
    intro a ha
    refine or_add 12 D a hD ?_
    rw [← ha, ← Nat.and_assoc, Nat.and_comm D a, Nat.and_assoc, hDF, Nat.and_zero]
  unfold zli
  rw [zni_FB h hN hk hv e, if_neg (nI_ne0 h1 (by omega)), zfo_gw g h hk h1 hv e, zro_gw g h hk h1 hv e, eF, eD]
  have hz := zliL_fold (cc := co) (ac := zac rw co) (fc := zfc co r) (lc := zlc co (zfc co r)) (f := f) (n := nI v) (fd := nI D) hF (subs 12 F) 4096 (subs_chn 12 F hF) (fun x hx => sub_lt hF ((subs_in 12 F hF x).mp hx)) (subs_len 12 F) (0, 0, mz12 swf)
  rw [subs_hd, nI_0] at hz
  rw [hz]
  unfold zlst
  rw [foldl_if (fun a => zsh co (zac rw co) (zfc co r) (zlc co (zfc co r)) f (nI D ||| nI a) (nI v)) (fun q a => zn3 q (nI D ||| nI a))]
  have key : shl rw co N bd hf k = ((subs 12 F).filter (fun a => zsh co (zac rw co) (zfc co r) (zlc co (zfc co r)) f (nI D ||| nI a) (nI v))).map (fun a => D + a) := by
    refine inc_eq _ _ (inc_filter _ _ (rng_inc _)) (inc_map (fun a b h => by omega) _ (inc_filter _ _ (subs_inc 12 F))) (fun s => ?_)
    unfold shl
    rw [List.mem_filter, rng_mem, List.mem_map]
    have hp : 2 ^ N ≤ 4096 := Nat.pow_le_pow_right (n := 2) (by decide) hN
    constructor
    · rintro ⟨hs, hm⟩
      have hsx : sm N (nI s) := fun i hi _ => by
        rw [bt_nI (by omega)]
        exact Nat.testBit_lt_two_pow (Nat.lt_of_lt_of_le hs (Nat.pow_le_pow_right (by decide) hi))
      obtain ⟨z1, z2, z3⟩ := (mish_iff g h hk h1 hv e hsx).mp hm
      rw [eD] at z1
      have hsF : (s &&& F) &&& F = s &&& F := by rw [Nat.and_assoc, Nat.and_self]
      have es : nI s = nI (D ||| (s &&& F)) := by
        rw [← nI_or (by omega) (Nat.lt_of_le_of_lt Nat.and_le_left (by omega)), ← nI_and (by omega) (by omega), ← eF]
        apply bt_ext
        intro i hi
        rw [bt_or, bt_and, bt_and, bt_not hi, eD]
        cases hb : bt (nI s) i
        · cases hd : bt (nI D) i
          · rfl
          · rw [z1 i hd] at hb; exact absurd hb (by decide)
        · rw [z2 i hb]
          cases bt (nI D) i <;> rfl
      refine ⟨s &&& F, List.mem_filter.mpr ⟨(subs_in 12 F hF _).mpr hsF, ?_⟩, ?_⟩
      · rw [nI_or (by omega) (Nat.lt_of_le_of_lt Nat.and_le_left (by omega)), ← es]; exact z3
      · have := nI_inj (by omega) (Nat.or_lt_two_pow (by omega) (Nat.lt_of_le_of_lt Nat.and_le_left (by omega))) es
        rw [← hor _ hsF, ← this]
    · rintro ⟨a, ha, rfl⟩
      rw [List.mem_filter, subs_in 12 F hF] at ha
      have ha4 := sub_lt hF ha.1
      have hor2 := hor a ha.1
      have e2 : nI D ||| nI a = nI (D + a) := by rw [nI_or (by omega) (by omega), hor2]
      have hsub : ∀ i, bt (nI a) i = true → bt (nI F) i = true := by
        intro i hi
        rw [bt_nI (by omega)] at hi ⊢
        rw [← ha.1, Nat.testBit_and, Bool.and_eq_true] at hi
        exact hi.2
      have hsx : sm N (nI (D + a)) := by
        rw [← e2]
        refine sm_or (by rw [← eD]; exact sD) (fun i h3 h4 => ?_)
        cases hb : bt (nI a) i
        · rfl
        · have := hsub i hb
          rw [← eF, sm_and sR _ i h3 h4] at this
          exact absurd this (by decide)
      have hlt : D + a < 2 ^ N := by
        apply Nat.lt_pow_two_of_testBit
        intro i hi
        rw [← bt_nI (by omega)]
        exact sm_ge hsx hi
      refine ⟨hlt, (mish_iff g h hk h1 hv e hsx).mpr ⟨fun i hi => ?_, fun i hi => ?_, by rw [← e2]; exact ha.2⟩⟩
      · rw [eD] at hi
        rw [← e2, bt_or, hi]; rfl
      · rw [← e2, bt_or, Bool.or_eq_true] at hi
        rcases hi with hi | hi
        · rw [← eD] at hi
          exact gw_mono g s1 (fun i hi => by rw [bt_or, hi]; rfl) i hi
        · have := hsub i hi
          rw [← eF, bt_and, Bool.and_eq_true] at this
          exact this.1
  rw [key, List.foldl_map]
  have hcong : ∀ (L : List Nat), (∀ a, a ∈ L → a &&& F = a) → ∀ q : Int32 × Int32 × (Nat → Int32), L.foldl (fun q a => zn3 q (nI D ||| nI a)) q = L.foldl (fun q a => zn3 q (nI (D + a))) q := by
    intro L
    induction L with
    | nil => intro _ _; rfl
    | cons x t ih =>
      intro hL q
      have hx := hL x List.mem_cons_self
      have hx4 := sub_lt hF hx
      rw [List.foldl_cons, List.foldl_cons, nI_or (by omega) (by omega), hor x hx]
      exact ih (fun a ha => hL a (List.mem_cons_of_mem _ ha)) _
  exact hcong _ (fun a ha => (subs_in 12 F hF a).mp (List.mem_filter.mp ha).1) _
end
