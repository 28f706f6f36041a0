/-! what the list of shapes gives; hidden cells -/
def ctb (j : Nat) : List Nat → Nat | [] => 0 | s :: L => (if bt (nI s) j then 1 else 0) + ctb j L
theorem fold_1 : ∀ (L : List Nat) (q : Int32 × Int32 × (Nat → Int32)) (n : Nat), q.1 = nI n → (L.foldl (fun q s => zn3 q (nI s)) q).1 = nI (n + L.length)
  | [], q, n, h => h
  | s :: L, q, n, h => by
    rw [List.foldl_cons, fold_1 L (zn3 q (nI s)) (n + 1) (by unfold zn3; rw [h, nI_1]), List.length_cons]
    congr 1; omega
theorem fold_3 {j : Nat} (hj : j < 12) : ∀ (L : List Nat) (q : Int32 × Int32 × (Nat → Int32)) (n : Nat), q.2.2 j = nI n → (L.foldl (fun q s => zn3 q (nI s)) q).2.2 j = nI (n + ctb j L)
  | [], q, n, h => h
  | s :: L, q, n, h => by
    have e : (zn3 q (nI s)).2.2 j = nI (n + (if bt (nI s) j then 1 else 0)) := by
      unfold zn3 znt
      show (if j < 12 then (if zhas (nI s) (nI j) then q.2.2 j + 1 else q.2.2 j) else q.2.2 j) = _
      rw [if_pos hj, zhas_bt, cb_nI (by omega), h]
      split
      · rw [nI_1]
      · rfl
    rw [List.foldl_cons, fold_3 hj L _ _ e, ctb]
    congr 1; omega
theorem fold_2 {i : Nat} : ∀ (L : List Nat) (q : Int32 × Int32 × (Nat → Int32)) (n : Nat), n + L.length < 2 ^ 30 → q.1 = nI n → 1 ≤ n → (bt (L.foldl (fun q s => zn3 q (nI s)) q).2.1 i = true ↔ bt q.2.1 i = true ∧ ∀ s, s ∈ L → bt (nI s) i = true)
  | [], q, n, _, _, _ => ⟨fun h => ⟨h, fun s hs => absurd hs List.not_mem_nil⟩, fun h => h.1⟩
  | s :: L, q, n, hl, h, h1 => by
    rw [List.length_cons] at hl
    have e1 : (zn3 q (nI s)).1 = nI (n + 1) := by unfold zn3; rw [h, nI_1]
    have e2 : (zn3 q (nI s)).2.1 = q.2.1 &&& nI s := by
      unfold zn3
      show (if q.1 = 0 then nI s else q.2.1 &&& nI s) = _
      rw [h, if_neg (nI_ne0 h1 (by omega))]
    rw [List.foldl_cons, fold_2 L _ (n + 1) (by omega) e1 (by omega), e2, bt_and, Bool.and_eq_true]
    constructor
    · rintro ⟨⟨z1, z2⟩, z3⟩
      refine ⟨z1, fun t ht => ?_⟩
      rcases List.mem_cons.mp ht with rfl | ht
      · exact z2
      · exact z3 t ht
    · rintro ⟨z1, z2⟩
      exact ⟨⟨z1, z2 s List.mem_cons_self⟩, fun t ht => z2 t (List.mem_cons_of_mem _ ht)⟩
theorem fold_22 {i : Nat} {z : Nat → Int32} (L : List Nat) (hl : L.length < 2 ^ 30) (hne : ¬ L = []) : bt (L.foldl (fun q s => zn3 q (nI s)) (0, 0, z)).2.1 i = true ↔ ∀ s, s ∈ L → bt (nI s) i = true := by
  cases L with
  | nil => exact absurd rfl hne
  | cons s L =>
    rw [List.length_cons] at hl
    rw [List.foldl_cons, fold_2 L (zn3 (0, 0, z) (nI s)) 1 (by omega) rfl (Nat.le_refl 1)]
    show bt (nI s) i = true ∧ _ ↔ _
    constructor
    · rintro ⟨h1, h2⟩ t ht
      rcases List.mem_cons.mp ht with rfl | ht
      · exact h1
      · exact h2 t ht
    · intro h
      exact ⟨h s List.mem_cons_self, fun t ht => h t (List.mem_cons_of_mem _ ht)⟩
theorem rng_len : ∀ n, (rng n).length = n
  | 0 => rfl
  | n + 1 => by rw [rng, List.length_append, rng_len n]; rfl
def ctw (w : Int32) : List Nat → Nat | [] => 0 | s :: L => (if nI s &&& w = w then 1 else 0) + ctw w L
theorem ctw_app (w : Int32) : ∀ A B, ctw w (A ++ B) = ctw w A + ctw w B
  | [], B => by rw [List.nil_append, ctw, Nat.zero_add]
  | x :: A, B => by rw [List.cons_append, ctw, ctw, ctw_app w A B, Nat.add_assoc]
theorem msc_ctw {rw co : Int32} {bd hf : Nat → Int32} {c w : Int32} (h0 : mish rw co bd hf 0 c = false) : ∀ k, msc rw co bd hf c w k = nI (ctw w ((rng (k + 1)).filter (fun s => mish rw co bd hf (nI s) c)))
  | 0 => by
    have : mish rw co bd hf (nI 0) c = false := by rw [nI_0]; exact h0
    show (0 : Int32) = nI (ctw w (([] ++ [0]).filter _))
    rw [List.nil_append, List.filter_cons, if_neg (by rw [this]; decide)]
    exact nI_0.symm
  | k + 1 => by
    rw [msc, msc_ctw h0 k, show rng (k + 1 + 1) = rng (k + 1) ++ [k + 1] from rfl, List.filter_append, ctw_app]
    have e : ctw w ([k + 1].filter (fun s => mish rw co bd hf (nI s) c)) = if (decide (nI (k + 1) &&& w = w) && mish rw co bd hf (nI (k + 1)) c) = true then 1 else 0 := by
      rw [List.filter_cons]
      by_cases hm : mish rw co bd hf (nI (k + 1)) c = true
      · rw [if_pos hm, hm, Bool.and_true, List.filter_nil, ctw, ctw, Nat.add_zero]
        by_cases hw : nI (k + 1) &&& w = w
        · rw [if_pos hw, decide_eq_true hw, if_pos rfl]
        · rw [if_neg hw, decide_eq_false hw, if_neg (by decide)]
      · rw [if_neg hm]
        have hm : mish rw co bd hf (nI (k + 1)) c = false := by simpa using hm
        rw [hm, Bool.and_false, if_neg (by decide)]; rfl
    rw [e]
    unfold b2i
    split
    · exact nI_1 _
    · rw [Int32.add_zero]; rfl
section
variable {rw co : Int32} {r c N : Nat} {f bd hf : Nat → Int32} {k v : Nat}
theorem msO_ctw (g : gok rw co r c N) (h : FB N f bd) (hk : k < N) (h1 : 1 ≤ v) (hv : v < 10) (e : bd k = nI v) (w : Int32) : msO rw co bd (mlk rw co bd hf) (nI k) w = nI (ctw w (shl rw co N bd hf k)) := by
  have hN := (gN g).2
  have hz : (zbit (rw * co)).toNatClampNeg = 2 ^ N := by
    rw [gmul g]
    have : ∀ n, n < 13 → (zbit (nI n)).toNatClampNeg = 2 ^ n := by decide +kernel
    exact this N (by omega)
  have hp : 1 ≤ 2 ^ N := Nat.one_le_two_pow
  unfold msO shl
  rw [hz, msc_ctw ?_, show 2 ^ N - 1 + 1 = 2 ^ N by omega]
  cases hm : mish rw co bd (mlk rw co bd hf) 0 (nI k)
  · rfl
  · have := ((mish_iff (hf := hf) g h hk h1 hv e (sm_0 N)).mp hm).1 k (gw_self g hk)
    rw [bt_0] at this
    exact absurd this (by decide)
theorem ctw_0 : ∀ L, ctw 0 L = L.length
  | [] => rfl
  | s :: L => by rw [ctw, ctw_0 L, if_pos (by rw [Int32.and_comm]; exact i0_and _), List.length_cons, Nat.add_comm]
theorem ctw_bit (g : gok rw co r c N) {j : Nat} (hj : j < N) : ∀ L, ctw (zbit (nI j)) L = ctb j L
  | [] => rfl
  | s :: L => by
    rw [ctw, ctb, ctw_bit g hj L]
    have : nI s &&& zbit (nI j) = zbit (nI j) ↔ bt (nI s) j = true := by
      rw [and_sub]
      exact ⟨fun z => z j ((bt_one g hj).mpr rfl), fun z i hi => by rw [(bt_one g hj).mp hi]; exact z⟩
    by_cases hb : bt (nI s) j = true
    · rw [if_pos hb, if_pos (this.mpr hb)]
    · rw [if_neg hb, if_neg (fun z => hb (this.mp z))]
theorem ctb_le (j : Nat) : ∀ L, ctb j L ≤ L.length
  | [] => Nat.le_refl 0
  | s :: L => by have := ctb_le j L; rw [ctb, List.length_cons]; split <;> omega
theorem ctb_all (j : Nat) : ∀ L, ctb j L = L.length ↔ ∀ s, s ∈ L → bt (nI s) j = true
  | [] => ⟨fun _ s hs => absurd hs List.not_mem_nil, fun _ => rfl⟩
  | s :: L => by
    have := ctb_le j L
    rw [ctb, List.length_cons]
    constructor
    · intro h
      by_cases hb : bt (nI s) j = true
      · rw [if_pos hb] at h
        intro t ht
        rcases List.mem_cons.mp ht with rfl | ht
        · exact hb
        · exact (ctb_all j L).mp (by omega) t ht
      · rw [if_neg hb] at h; omega
    · intro h
      rw [if_pos (h s List.mem_cons_self), (ctb_all j L).mpr (fun t ht => h t (List.mem_cons_of_mem _ ht))]; omega
theorem shl_len (N : Nat) (hN : N ≤ 12) : (shl rw co N bd hf k).length ≤ 4096 := by
  have h1 := List.length_filter_le (fun s => mish rw co bd (mlk rw co bd hf) (nI s) (nI k)) (rng (2 ^ N))
  rw [rng_len] at h1
  have hp : 2 ^ N ≤ 4096 := Nat.pow_le_pow_right (n := 2) (by decide) hN
  exact Nat.le_trans h1 hp
theorem zli_1 (g : gok rw co r c N) (h : FB N f bd) (hk : k < N) (h1 : 1 ≤ v) (hv : v < 10) (e : bd k = nI v) (swf : Nat → Int32) : (zli co (zac rw co) (zfc co r) (zlc co (zfc co r)) f (nI k) swf).1 = msO rw co bd (mlk rw co bd hf) (nI k) 0 := by
  rw [zli_shl (hf := hf) g h hk h1 hv e, msO_ctw g h hk h1 hv e, ctw_0, fold_1 _ _ 0 nI_0.symm, Nat.zero_add]
theorem zli_3 (g : gok rw co r c N) (h : FB N f bd) (hk : k < N) (h1 : 1 ≤ v) (hv : v < 10) (e : bd k = nI v) (swf : Nat → Int32) {j : Nat} (hj : j < N) : (zli co (zac rw co) (zfc co r) (zlc co (zfc co r)) f (nI k) swf).2.2 j = msO rw co bd (mlk rw co bd hf) (nI k) (zbit (nI j)) := by
  have hN := (gN g).2
  rw [zli_shl (hf := hf) g h hk h1 hv e, msO_ctw g h hk h1 hv e, ctw_bit g hj, fold_3 (by omega) _ _ 0 (by show mz12 swf j = _; unfold mz12; rw [if_pos (by omega), nI_0]), Nat.zero_add]
/-- all shapes of k hold j -/
theorem zli_2 (g : gok rw co r c N) (h : FB N f bd) (hk : k < N) (h1 : 1 ≤ v) (hv : v < 10) (e : bd k = nI v) (swf : Nat → Int32) {j : Nat} (hj : j < N) : zhas (zli co (zac rw co) (zfc co r) (zlc co (zfc co r)) f (nI k) swf).2.1 (nI j) = true ↔ 0 < msO rw co bd (mlk rw co bd hf) (nI k) 0 ∧ msO rw co bd (mlk rw co bd hf) (nI k) (zbit (nI j)) = msO rw co bd (mlk rw co bd hf) (nI k) 0 := by
  have hN := (gN g).2
  have hl : (shl rw co N bd hf k).length ≤ 4096 := shl_len N hN
  rw [zli_shl (hf := hf) g h hk h1 hv e, msO_ctw g h hk h1 hv e, msO_ctw g h hk h1 hv e, ctw_0, ctw_bit g hj, zhas_bt, cb_nI (by omega)]
  have hl2 := ctb_le j (shl rw co N bd hf k)
  rw [nI_eq (by omega) (by omega), ctb_all, show ((0 : Int32) < nI (shl rw co N bd hf k).length) = (nI 0 < nI (shl rw co N bd hf k).length) by rw [nI_0], nI_ltI (by decide) (by omega)]
  by_cases h0 : shl rw co N bd hf k = []
  · rw [h0]
    constructor
    · intro z
      rw [List.foldl_nil] at z
      have z : bt 0 j = true := z
      rw [bt_0] at z; exact absurd z (by decide)
    · intro z; exact absurd z.1 (by decide)
  · rw [fold_22 _ (by omega) h0]
    refine ⟨fun z => ⟨?_, z⟩, fun z => z.2⟩
    cases hs : shl rw co N bd hf k with
    | nil => exact absurd hs h0
    | cons a t => simp
end
