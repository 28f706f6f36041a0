/-! the solutions of a board: what each is, that each is told once -/
def nd {α : Type} : List α → Prop | [] => True | x :: L => ¬ x ∈ L ∧ nd L
theorem nd_app {α : Type} : ∀ (A B : List α), nd A → nd B → (∀ x, x ∈ A → ¬ x ∈ B) → nd (A ++ B)
  | [], _, _, hB, _ => hB
  | x :: A, B, hA, hB, h => by
    refine ⟨fun hx => ?_, nd_app A B hA.2 hB (fun y hy => h y (List.mem_cons_of_mem _ hy))⟩
    rcases List.mem_append.mp hx with z | z
    · exact hA.1 z
    · exact h x List.mem_cons_self z
theorem mem_split {α : Type} {a : α} : ∀ (L : List α), a ∈ L → ∃ s t, L = s ++ a :: t
  | [], h => absurd h List.not_mem_nil
  | x :: L, h => by
    rcases List.mem_cons.mp h with rfl | h
    · exact ⟨[], L, rfl⟩
    · obtain ⟨s, t, e⟩ := mem_split L h
      exact ⟨x :: s, t, by rw [e]; rfl⟩
theorem nd_len {α : Type} : ∀ (A B : List α), nd A → (∀ x, x ∈ A → x ∈ B) → A.length ≤ B.length
  | [], _, _, _ => Nat.zero_le _
  | x :: A, B, hA, h => by
    obtain ⟨s, t, e⟩ := mem_split B (h x List.mem_cons_self)
    have := nd_len A (s ++ t) hA.2 (fun y hy => by
      have hy2 := h y (List.mem_cons_of_mem _ hy)
      rw [e] at hy2
      rcases List.mem_append.mp hy2 with z | z
      · exact List.mem_append.mpr (Or.inl z)
      · rcases List.mem_cons.mp z with z | z
        · rw [z] at hy; exact absurd hy hA.1
        · exact List.mem_append.mpr (Or.inr z))
    rw [e, List.length_append, List.length_cons, List.length_cons]
    rw [List.length_append] at this
    omega
theorem tcat_in {α : Type} {x : α} {g : Nat → List α} {t : Nat} (ht : t < 9) (hx : x ∈ g t) : ∀ j, j ≤ 9 → 8 - t < j → x ∈ tcat g j
  | 0, _, h => absurd h (Nat.not_lt_zero _)
  | j + 1, hj, h => by
    rw [tcat]
    by_cases e : t = 8 - j
    · rw [← e]; exact List.mem_append.mpr (Or.inl hx)
    · exact List.mem_append.mpr (Or.inr (tcat_in ht hx j (by omega) (by omega)))
theorem tcat_mem {α : Type} {x : α} {g : Nat → List α} : ∀ j, j ≤ 9 → x ∈ tcat g j → ∃ t, 9 - j ≤ t ∧ t < 9 ∧ x ∈ g t
  | 0, _, h => absurd h List.not_mem_nil
  | j + 1, hj, h => by
    rw [tcat] at h
    rcases List.mem_append.mp h with z | z
    · exact ⟨8 - j, by omega, by omega, z⟩
    · obtain ⟨t, h1, h2, h3⟩ := tcat_mem j (by omega) z
      exact ⟨t, by omega, h2, h3⟩
theorem tcat_nd {α : Type} {g : Nat → List α} (h1 : ∀ t, t < 9 → nd (g t)) (h2 : ∀ s t, s < 9 → t < 9 → ¬ s = t → ∀ x, x ∈ g s → ¬ x ∈ g t) : ∀ j, j ≤ 9 → nd (tcat g j)
  | 0, _ => trivial
  | j + 1, hj => by
    rw [tcat]
    refine nd_app _ _ (h1 _ (by omega)) (tcat_nd h1 h2 j (by omega)) (fun x hx hy => ?_)
    obtain ⟨t, a, b, d⟩ := tcat_mem j (by omega) hy
    exact h2 (8 - j) t (by omega) b (by omega) x hx d
theorem mnum_0 (i : Nat) : ∀ t, t < 9 → mnum (fun _ => 0) i t = nI (t + 1) := by
  have : ∀ t, t < 9 → zrem ((0 : Int32) + nI t) 9 + 1 = nI (t + 1) := by decide +kernel
  exact this
theorem opF_nd {bd : Nat → Int32} {N : Nat} : ∀ k, k ≤ N → nd (opF bd N k)
  | 0, _ => trivial
  | k + 1, hk => by
    rw [opF]
    split
    · refine ⟨fun h => ?_, opF_nd k (by omega)⟩
      have := ((opF_mem k (by omega) _).mp h).1
      omega
    · exact opF_nd k (by omega)
section
variable {rw co : Int32} {r c N : Nat}
/-- less filled in, and still sound -/
theorem part_sound (g : gok rw co r c N) {y x : Nat → Int32} (hy : bv N y) (hx : bv N x) (hs : mso rw co x (fun _ => 0) = true) (he : EXT N y x) : mso rw co y (fun _ => 0) = true := by
  have hN := (gN g).2
  have hFy := FB_fob hN y
  have hFx := FB_fob hN x
  rw [← SND_mso g hFy hy]
  rw [← SND_mso g hFx hx] at hs
  intro v h1 hv k hk
  obtain ⟨hkN, ek⟩ := (FB_iff hFy hN hv).mp hk
  have s1 := one_sm g hkN
  have exk : x k = nI v := (he k hkN (by rw [ek]; exact nI_ne0' h1 hv)).trans ek
  have hkx : bt (fob N x v) k = true := (FB_iff hFx hN hv).mpr ⟨hkN, exk⟩
  obtain ⟨a, b⟩ := hs v h1 hv k hkx
  have sub1 : ∀ i, bt (fob N y v) i = true → bt (fob N x v) i = true := fun i hi => by
    obtain ⟨hiN, ei⟩ := (FB_iff hFy hN hv).mp hi
    exact (FB_iff hFx hN hv).mpr ⟨hiN, (he i hiN (by rw [ei]; exact nI_ne0' h1 hv)).trans ei⟩
  have sub2 : ∀ i, bt (fob N x v ||| fob N x 0) i = true → bt (fob N y v ||| fob N y 0) i = true := fun i hi => by
    rw [bt_or, Bool.or_eq_true] at hi ⊢
    have hiN : i < N := by
      rcases hi with z | z
      · exact ((FB_iff hFx hN hv).mp z).1
      · exact ((FB_0 hFx hN).mp z).1
    by_cases e : y i = 0
    · exact Or.inr ((FB_0 hFy hN).mpr ⟨hiN, e⟩)
    · have := he i hiN e
      rcases hi with z | z
      · exact Or.inl ((FB_iff hFy hN hv).mpr ⟨hiN, this.symm.trans ((FB_iff hFx hN hv).mp z).2⟩)
      · exact absurd (this.symm.trans ((FB_0 hFx hN).mp z).2) e
  exact ⟨Nat.le_trans (cn_mono (gw_mono g s1 sub1) 12) a, Nat.le_trans b (cn_mono (gw_mono g s1 sub2) 12)⟩
theorem msl_off {gf : Nat → Int32} : ∀ (L : List Nat) (bd x : Nat → Int32), x ∈ msl rw co gf L bd → ∀ i, ¬ i ∈ L → x i = bd i
  | [], bd, x, hx, i, _ => by
    rw [msl, List.mem_singleton] at hx
    rw [hx]
  | a :: L, bd, x, hx, i, hi => by
    rw [msl] at hx
    obtain ⟨t, ht, hx⟩ := mem_tcat 9 hx
    split at hx
    · rw [msl_off L _ x hx i (fun z => hi (List.mem_cons_of_mem _ z))]
      unfold upd
      rw [if_neg (fun z => hi (by rw [z]; exact List.mem_cons_self))]
    · exact absurd hx List.not_mem_nil
theorem msl_back (g : gok rw co r c N) {x : Nat → Int32} (hx : bv N x) (hF : FUL N x) (hs : mso rw co x (fun _ => 0) = true) : ∀ (L : List Nat) (bd : Nat → Int32), nd L → (∀ i, i ∈ L → i < N ∧ bd i = 0) → bv N bd → (∀ i, ¬ i ∈ L → x i = bd i) → x ∈ msl rw co (fun _ => 0) L bd
  | [], bd, _, _, _, h => by
    rw [msl, List.mem_singleton]
    exact funext (fun i => h i List.not_mem_nil)
  | a :: L, bd, hn, h0, hb, h => by
    obtain ⟨haN, ha0⟩ := h0 a List.mem_cons_self
    have hN := (gN g).2
    rcases val_or hx haN with e | ⟨v, h1, hv, e⟩
    · exact absurd e (hF a haN)
    have hsnd : mso rw co (upd bd a (nI v)) (fun _ => 0) = true := part_sound g (bv_upd hb hv) hx hs (fun i hi hne => by
      unfold upd at hne ⊢
      split
      · next z => rw [z, e]
      · next z =>
        rw [if_neg z] at hne
        refine h i (fun q => ?_)
        rcases List.mem_cons.mp q with q | q
        · exact z q
        · exact hne (h0 i (List.mem_cons_of_mem _ q)).2)
    have ev : mnum (fun _ => 0) a (v - 1) = nI v := by rw [mnum_0 a (v - 1) (by omega), show v - 1 + 1 = v by omega]
    rw [msl]
    refine tcat_in (t := v - 1) (by omega) ?_ 9 (Nat.le_refl _) (by omega)
    rw [ev]
    have hm : mft0 rw co bd (nI a) (nI v) = true := by
      unfold mft0 mft
      rw [nI_clamp (by omega), ha0, hsnd]; rfl
    rw [if_pos hm]
    refine msl_back g hx hF hs L _ hn.2 (fun i hi => ⟨(h0 i (List.mem_cons_of_mem _ hi)).1, ?_⟩) (bv_upd hb hv) (fun i hi => ?_)
    · unfold upd
      rw [if_neg (fun z => hn.1 (by rw [← z]; exact hi))]
      exact (h0 i (List.mem_cons_of_mem _ hi)).2
    · unfold upd
      split
      · next z => rw [z, e]
      · next z =>
        refine h i (fun q => ?_)
        rcases List.mem_cons.mp q with q | q
        · exact z q
        · exact hi q
theorem msl_nd : ∀ (L : List Nat) (bd : Nat → Int32), nd L → nd (msl rw co (fun _ => 0) L bd)
  | [], _, _ => ⟨List.not_mem_nil, trivial⟩
  | a :: L, bd, hn => by
    rw [msl]
    refine tcat_nd (fun t ht => ?_) (fun s t hs ht hne x hx hy => ?_) 9 (Nat.le_refl _)
    · split
      · exact msl_nd L _ hn.2
      · trivial
    · split at hx
      · split at hy
        · have e1 := msl_off L _ x hx a hn.1
          have e2 := msl_off L _ x hy a hn.1
          unfold upd at e1 e2
          rw [if_pos rfl, mnum_0 a _ hs] at e1
          rw [if_pos rfl, mnum_0 a _ ht] at e2
          have := nI_inj (by omega) (by omega) (e1.symm.trans e2)
          omega
        · exact absurd hy List.not_mem_nil
      · exact absurd hx List.not_mem_nil
theorem n9_0 : ∀ i t : Nat, i < N → t < 9 → n9 (mnum (fun _ => 0) i t) := fun i t _ ht => ⟨t + 1, by omega, by omega, mnum_0 i t ht⟩
/-- what a solution of a board is -/
theorem sol_iff (g : gok rw co r c N) {bd : Nat → Int32} (hb : bv N bd) (hs : mso rw co bd (fun _ => 0) = true) (x : Nat → Int32) :
    x ∈ mall0 rw co bd (fun _ => 0) ↔ (bv N x ∧ mso rw co x (fun _ => 0) = true ∧ FUL N x) ∧ ∀ i, ¬ (i < N ∧ bd i = 0) → x i = bd i := by
  unfold mall0
  rw [gmN g, mopn_opF]
  have hmem : ∀ i, i ∈ opF bd N N ↔ i < N ∧ bd i = 0 := fun i => by
    rw [opF_mem N (Nat.le_refl _) i]
    exact ⟨fun h => h.2, fun h => ⟨by omega, h⟩⟩
  constructor
  · intro hx
    obtain ⟨a, b, d, -⟩ := msl_mem g n9_0 (opF bd N N) bd (fun i hi => ((hmem i).mp hi).1) hb hs (fun i h1 h2 => (hmem i).mpr ⟨h1, h2⟩) x hx
    exact ⟨⟨a, b, d⟩, fun i hi => msl_off _ bd x hx i (fun z => hi ((hmem i).mp z))⟩
  · rintro ⟨⟨a, b, d⟩, e⟩
    exact msl_back g a d b (opF bd N N) bd (opF_nd N (Nat.le_refl _)) (fun i hi => (hmem i).mp hi) hb (fun i hi => e i (fun z => hi ((hmem i).mpr z)))
theorem mall_nd (bd : Nat → Int32) : nd (mall0 rw co bd (fun _ => 0)) := by
  unfold mall0
  rw [mopn_opF]
  exact msl_nd _ _ (opF_nd _ (Nat.le_refl _))
/-- a cell that has one number in all solutions: with it there are as many -/
theorem sol_keep (g : gok rw co r c N) {bd : Nat → Int32} (hb : bv N bd) (hs : mso rw co bd (fun _ => 0) = true) {k v : Nat} (hk : k < N) (h0 : bd k = 0) (h1 : 1 ≤ v) (hv : v < 10) (hs2 : mso rw co (upd bd k (nI v)) (fun _ => 0) = true)
    (hall : ∀ x, x ∈ mall0 rw co bd (fun _ => 0) → x k = nI v) : (mall0 rw co (upd bd k (nI v)) (fun _ => 0)).length = (mall0 rw co bd (fun _ => 0)).length := by
  have hb2 := bv_upd hb (k := k) hv
  apply Nat.le_antisymm
  · refine nd_len _ _ (mall_nd _) (fun x hx => ?_)
    obtain ⟨a, b⟩ := (sol_iff g hb2 hs2 x).mp hx
    refine (sol_iff g hb hs x).mpr ⟨a, fun i hi => ?_⟩
    have hik : ¬ i = k := fun z => hi (by rw [z]; exact ⟨hk, h0⟩)
    rw [b i (fun z => hi ⟨z.1, by have := z.2; unfold upd at this; rwa [if_neg hik] at this⟩)]
    unfold upd
    rw [if_neg hik]
  · refine nd_len _ _ (mall_nd _) (fun x hx => ?_)
    obtain ⟨a, b⟩ := (sol_iff g hb hs x).mp hx
    refine (sol_iff g hb2 hs2 x).mpr ⟨a, fun i hi => ?_⟩
    unfold upd at hi ⊢
    by_cases hik : i = k
    · rw [if_pos hik, hik]; exact hall x hx
    · rw [if_neg hik] at hi ⊢
      exact b i hi
theorem sol_fits (g : gok rw co r c N) {bd : Nat → Int32} (hb : bv N bd) (hs : mso rw co bd (fun _ => 0) = true) {x : Nat → Int32} (hx : x ∈ mall0 rw co bd (fun _ => 0)) {k : Nat} (hk : k < N) (h0 : bd k = 0) (hf : Nat → Int32) : ∃ w, 1 ≤ w ∧ w < 10 ∧ x k = nI w ∧ mft rw co bd hf (nI k) (nI w) = true := by
  obtain ⟨⟨a, b, d⟩, e⟩ := (sol_iff g hb hs x).mp hx
  have hN := (gN g).2
  rcases val_or a hk with z | ⟨w, h1, hw, ew⟩
  · exact absurd z (d k hk)
  · refine ⟨w, h1, hw, ew, ?_⟩
    unfold mft
    rw [nI_clamp (by omega), h0, decide_eq_true rfl, Bool.true_and]
    have hs2 : mso rw co (upd bd k (nI w)) (fun _ => 0) = true := part_sound g (bv_upd hb hw) a b (fun i hi hne => by
      unfold upd at hne ⊢
      split
      · next z => rw [z, ew]
      · next z =>
        rw [if_neg z] at hne
        exact e i (fun q => hne q.2))
    rw [mso_congr g (h2 := fun _ => 0) (fun _ _ => rfl) (bv_upd hb hw)]
    exact hs2
end
