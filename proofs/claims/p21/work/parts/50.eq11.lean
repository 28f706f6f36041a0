/-! the shapes of a cell: one list for both -/
theorem bt_nI {n : Nat} (h : n < 2 ^ 31) (i : Nat) : bt (nI n) i = n.testBit i := by
  show (BitVec.ofNat 32 n).getLsbD i = _
  rw [BitVec.getLsbD_ofNat]
  by_cases hi : i < 32
  · simp [hi]
  · have : n.testBit i = false := Nat.testBit_lt_two_pow (Nat.lt_of_lt_of_le h (Nat.pow_le_pow_right (by decide) (by omega)))
    simp [this]
theorem nI_and {a b : Nat} (ha : a < 2 ^ 31) (hb : b < 2 ^ 31) : nI a &&& nI b = nI (a &&& b) := by
  apply bt_ext
  intro i _
  rw [bt_and, bt_nI ha, bt_nI hb, bt_nI (Nat.lt_of_le_of_lt Nat.and_le_left ha), Nat.testBit_and]
theorem nI_or {a b : Nat} (ha : a < 2 ^ 31) (hb : b < 2 ^ 31) : nI a ||| nI b = nI (a ||| b) := by
  apply bt_ext
  intro i _
  rw [bt_or, bt_nI ha, bt_nI hb, bt_nI (Nat.or_lt_two_pow ha hb), Nat.testBit_or]
theorem nI_next {a F : Nat} (ha : a < 4096) (hF : F < 4096) : (nI a - nI F) &&& nI F = nI (nx 12 F a) := by
  apply Int32.toBitVec_inj.mp
  apply BitVec.eq_of_toNat_eq
  show ((BitVec.ofNat 32 a - BitVec.ofNat 32 F) &&& BitVec.ofNat 32 F).toNat = (BitVec.ofNat 32 (nx 12 F a)).toNat
  have h1 : ∀ X : Nat, X &&& F = (X % 2 ^ 12) &&& F := by
    intro X
    have := Nat.and_mod_two_pow (a := X) (b := F) (n := 12)
    rw [Nat.mod_eq_of_lt (show F < 2 ^ 12 from hF)] at this
    rw [← this, Nat.mod_eq_of_lt (Nat.lt_of_le_of_lt Nat.and_le_right hF)]
  rw [BitVec.toNat_and, BitVec.toNat_sub, BitVec.toNat_ofNat, BitVec.toNat_ofNat, BitVec.toNat_ofNat]
  unfold nx
  rw [Nat.mod_eq_of_lt (show F < 2 ^ 32 by omega), Nat.mod_eq_of_lt (show a < 2 ^ 32 by omega), Nat.mod_eq_of_lt (show (a + 2 ^ 12 - F) &&& F < 2 ^ 32 from Nat.lt_of_le_of_lt Nat.and_le_right (by omega)), h1, h1 (a + 2 ^ 12 - F)]
  congr 1
  omega
theorem sub_lt {F a : Nat} (hF : F < 4096) (h : a &&& F = a) : a < 4096 := by
  rw [← h]; exact Nat.lt_of_le_of_lt Nat.and_le_right hF
theorem zliL_fold {cc ac fc lc : Int32} {f : Nat → Int32} {n fd : Int32} {F : Nat} (hF : F < 4096) : ∀ (L : List Nat) (j : Nat), chn (nx 12 F) L → (∀ x, x ∈ L → x < 4096) → L.length ≤ j → ∀ q, zliL cc ac fc lc f n fd (nI F) j (nI (L.headD 0)) q = L.foldl (fun q a => zlst cc ac fc lc f n fd q (nI a)) q
  | [], _, h, _, _, _ => h.elim
  | _ :: _, 0, _, _, hl, _ => by simp at hl
  | [x], j + 1, h, hx, hl, q => by
    have h : nx 12 F x = 0 := h
    show zliL cc ac fc lc f n fd (nI F) (j + 1) (nI x) q = zlst cc ac fc lc f n fd q (nI x)
    rw [zliL, nI_next (hx x List.mem_cons_self) hF, h, if_pos nI_0]
  | x :: y :: t, j + 1, h, hx, hl, q => by
    obtain ⟨h1, h2, h3⟩ := h
    have hy := hx y (List.mem_cons_of_mem _ List.mem_cons_self)
    show zliL cc ac fc lc f n fd (nI F) (j + 1) (nI x) q = _
    rw [zliL, nI_next (hx x List.mem_cons_self) hF, h1, if_neg (nI_ne0 (by omega) (by omega))]
    exact zliL_fold hF (y :: t) j h3 (fun z hz => hx z (List.mem_cons_of_mem _ hz)) (by simpa using hl) _
theorem subs_hd (n : Nat) : ∀ F, (subs n F).headD 0 = 0 := by
  induction n with
  | zero => intro F; rfl
  | succ n ih =>
    intro F
    have := ih (F / 2)
    rw [subs]
    split
    · cases h : subs n (F / 2) with
      | nil => rfl
      | cons x t => rw [h] at this; have this : x = 0 := this; subst this; rfl
    · cases h : subs n (F / 2) with
      | nil => rfl
      | cons x t => rw [h] at this; have this : x = 0 := this; subst this; rfl
theorem subs_len (n : Nat) : ∀ F, (subs n F).length ≤ 2 ^ n := by
  induction n with
  | zero => intro F; exact Nat.le_refl 1
  | succ n ih =>
    intro F
    have := ih (F / 2)
    have hp : 2 ^ (n + 1) = 2 * 2 ^ n := by rw [Nat.pow_succ, Nat.mul_comm]
    rw [subs]
    split
    · rw [List.length_map]; omega
    · have e : ∀ L : List Nat, (L.flatMap (fun a => [2 * a, 2 * a + 1])).length = 2 * L.length := by
        intro L
        induction L with
        | nil => rfl
        | cons x t ih => rw [List.flatMap_cons, List.length_append, ih]; simp; omega
      rw [e]; omega
theorem foldl_if {α β : Type} (p : α → Bool) (h : β → α → β) : ∀ (L : List α) (q : β), L.foldl (fun q a => if p a = true then h q a else q) q = (L.filter p).foldl h q
  | [], _ => rfl
  | x :: L, q => by
    rw [List.foldl_cons, List.filter_cons]
    by_cases hp : p x = true
    · rw [if_pos hp, if_pos hp, List.foldl_cons]; exact foldl_if p h L _
    · rw [if_neg hp, if_neg hp]; exact foldl_if p h L _
theorem or_add : ∀ (n a b : Nat), a < 2 ^ n → a &&& b = 0 → a ||| b = a + b := by
  intro n
  induction n with
  | zero => intro a b h1 _; have : a = 0 := by simpa using h1
            subst this; rw [Nat.zero_or, Nat.zero_add]
  | succ n ih =>
    intro a b h1 h2
    have hp : 2 ^ (n + 1) = 2 * 2 ^ n := by rw [Nat.pow_succ, Nat.mul_comm]
    have e1 : (a ||| b) / 2 = a / 2 ||| b / 2 := Nat.or_div_two
    have e2 : (a &&& b) / 2 = a / 2 &&& b / 2 := Nat.and_div_two
    rw [h2] at e2
    have e3 := ih (a / 2) (b / 2) (by omega) e2.symm
    have e4 : (a ||| b) % 2 = a % 2 + b % 2 := by
      have h3 : a.testBit 0 = false ∨ b.testBit 0 = false := by
        have := congrArg (fun z => z.testBit 0) h2
        simp only [Nat.testBit_and, Nat.zero_testBit] at this
        cases ha : a.testBit 0 <;> cases hb : b.testBit 0 <;> simp_all
      have h4 : (a ||| b).testBit 0 = (a.testBit 0 || b.testBit 0) := Nat.testBit_or _ _ _
      simp only [Nat.testBit_zero] at h3 h4
      rcases Nat.mod_two_eq_zero_or_one a with ha | ha <;> rcases Nat.mod_two_eq_zero_or_one b with hb | hb <;> rcases Nat.mod_two_eq_zero_or_one (a ||| b) with hc | hc <;> rw [ha, hb] at h3 <;> rw [ha, hb, hc] at h4 <;> rw [ha, hb, hc] <;> revert h3 h4 <;> decide
    omega
