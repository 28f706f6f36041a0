/-! shapes, draws -/
def zremL (x y : Int64) : Int64 := x - x / y * y
def znb (x : Int64) (b : Int32) : Int32 := if 0 < b then (zremL (x / 65536) b.toInt64).toInt32 else 0
def znt (g : Nat → Int32) (s : Int32) : Nat → Int32 := fun k => if k < 12 then (if zhas s (nI k) then g k + 1 else g k) else g k
def zn3 (q : Int32 × Int32 × (Nat → Int32)) (s : Int32) : Int32 × Int32 × (Nat → Int32) := (q.1 + 1, if q.1 = 0 then s else q.2.1 &&& s, znt q.2.2 s)
def zlst (cc ac fc lc : Int32) (f : Nat → Int32) (n fd : Int32) (q : Int32 × Int32 × (Nat → Int32)) (a : Int32) : Int32 × Int32 × (Nat → Int32) := if zsh cc ac fc lc f (fd ||| a) n then zn3 q (fd ||| a) else q
def zliL (cc ac fc lc : Int32) (f : Nat → Int32) (n fd fr : Int32) : Nat → Int32 → Int32 × Int32 × (Nat → Int32) → Int32 × Int32 × (Nat → Int32) | 0, _, q => q | j + 1, a, q => if (a - fr) &&& fr = 0 then zlst cc ac fc lc f n fd q a else zliL cc ac fc lc f n fd fr j ((a - fr) &&& fr) (zlst cc ac fc lc f n fd q a)
def zli (cc ac fc lc : Int32) (f : Nat → Int32) (c : Int32) (swf : Nat → Int32) : Int32 × Int32 × (Nat → Int32) := if zni f c 9 = 0 then (0, 0, mz12 swf) else zliL cc ac fc lc f (zni f c 9) (zfo cc ac fc lc f c) (zro cc ac fc lc f c &&& (zfo cc ac fc lc f c ^^^ (-1))) 4096 0 (0, 0, mz12 swf)
def ff_rm (d : Nat) : Room := { frames := 10 + 2 * d, cells := 0, slots := 0, locals := 200 + 60 * d }
theorem ff_fr {a d : Nat} (h : a + 1 ≤ 12) : a + 1 ≤ (ff_rm (d + 1)).frames := by show a + 1 ≤ 10 + 2 * (d + 1); omega
theorem ff_lo {a d : Nat} (h : a ≤ 260) : a ≤ (ff_rm (d + 1)).locals := by show a ≤ 200 + 60 * (d + 1); omega
theorem ff_frs {d : Nat} : (ff_rm d).frames + 1 ≤ (ff_rm (d + 1)).frames := by show 10 + 2 * d + 1 ≤ 10 + 2 * (d + 1); omega
theorem ff_los {a d : Nat} (h : a ≤ 60) : a + (ff_rm d).locals ≤ (ff_rm (d + 1)).locals := by show a + (200 + 60 * d) ≤ 200 + 60 * (d + 1); omega
/-! the solver: its solved boards in their order -/
def cb (c : Int32) : Nat := c.toBitVec.toNat % 32
def bt (x : Int32) (i : Nat) : Bool := x.toBitVec.getLsbD i
def zval (f : Nat → Int32) : Prop := ∀ k, 1 ≤ k → k < 10 → ∀ i, i < 32 → bt (f 0) i = true → bt (f k) i = false
def zok1 (cc ac fc lc : Int32) (f : Nat → Int32) (c n : Int32) : Bool := decide (zle f n 9 0 < bc (f 0)) && zct cc ac fc lc f c n
def zsl (cc ac fc lc : Int32) (N : Nat) : Nat → (Nat → Int32) → List (Nat → Int32) | 0, f => [f] | k + 1, f => if zni f (nI (N - (k + 1))) 9 = 0 then tcat (fun t => if zok1 cc ac fc lc f (nI (N - (k + 1))) (nI (t + 1)) then zsl cc ac fc lc N k (zwr f (nI (N - (k + 1))) (nI (t + 1))) else []) 9 else zsl cc ac fc lc N k f
def zcs (cc ac fc lc : Int32) (f : Nat → Int32) (from' most : Int32) : Int32 := msR most (zsl cc ac fc lc (bc ac).toNatClampNeg ((bc ac).toNatClampNeg - from'.toNatClampNeg) f)
def zng (x : Int32) : Nat → Int32 | 0 => x | t + 1 => if zng x t = 9 then 1 else zng x t + 1
def zfl (cc ac fc lc : Int32) (fnf : Nat → Int32) (N : Nat) : Nat → (Nat → Int32) → List (Nat → Int32) | 0, f => [f] | k + 1, f => tcat (fun t => if zok1 cc ac fc lc f (nI (N - (k + 1))) (zng (fnf (N - (k + 1))) t) then zfl cc ac fc lc fnf N k (zwr f (nI (N - (k + 1))) (zng (fnf (N - (k + 1))) t)) else []) 9
def zsf (cc ac fc lc : Int32) (f fnf : Nat → Int32) (p1 : Int32) : Option (Nat → Int32) := (zfl cc ac fc lc fnf (bc ac).toNatClampNeg ((bc ac).toNatClampNeg - p1.toNatClampNeg) f).head?
def zN (ac : Int32) : Nat := (bc ac).toNatClampNeg
def zrp (ac : Int32) (f : Nat → Int32) (p1 p2 : Int32) (d : Nat) : Prop := zval f ∧ (zN ac ≤ 12 ∧ bc ac = nI (zN ac)) ∧ ∃ a q : Nat, p1 = nI a ∧ a ≤ zN ac ∧ zN ac - a < d ∧ p2 = nI q ∧ 1 ≤ q ∧ q ≤ 5
def zrq (ac : Int32) (f fnf : Nat → Int32) (p1 : Int32) (d : Nat) : Prop := zval f ∧ (zN ac ≤ 12 ∧ bc ac = nI (zN ac)) ∧ ∃ a : Nat, p1 = nI a ∧ a ≤ zN ac ∧ zN ac - a < d
def ve_X1_nextBelow (ds : Int64) (p1 : Int32) (P : Int32 → Int64 → Prop)  : Prop := (p1 ≤ 0 → P 0 (((ds * 1103515245) + 12345) - ((ds * 1103515245) + 12345) / 2147483648 * 2147483648)) ∧ (¬ p1 ≤ 0 → ¬ (p1.toInt64) = 0 ∧ P ((((((ds * 1103515245) + 12345) - ((ds * 1103515245) + 12345) / 2147483648 * 2147483648) / 65536) - ((((ds * 1103515245) + 12345) - ((ds * 1103515245) + 12345) / 2147483648 * 2147483648) / 65536) / (p1.toInt64) * (p1.toInt64) : Int64).toInt32) (((ds * 1103515245) + 12345) - ((ds * 1103515245) + 12345) / 2147483648 * 2147483648))
def vs_X2_forget_12 (cnt : Int32) (call : Int32) (swf : Nat → Int32) (P : (Int32 × Int32 × (Nat → Int32)) → Prop) (J12 : Int32 → Int32 → Int32 → (Nat → Int32) → Prop) (x1 : Int32) (cnt' : Int32) (call' : Int32) (swf' : Nat → Int32) : Prop := (12 ≤ x1 → P (cnt', call', swf')) ∧ (¬ 12 ≤ x1 → vp_in x1 12 ∧ ∀ y_3 : Int32, y_3 = x1 + 1 → (J12 y_3 cnt' call' (upd swf' x1.toNatClampNeg 0)))
def ve_X2_forget (cnt : Int32) (call : Int32) (swf : Nat → Int32) (P : (Int32 × Int32 × (Nat → Int32)) → Prop) (J12 : Int32 → Int32 → Int32 → (Nat → Int32) → Prop) : Prop := (J12 0 0 0 swf)
def vs_X2_note_33 (cnt : Int32) (call : Int32) (swf : Nat → Int32) (p1 : Int32) (P : (Int32 × Int32 × (Nat → Int32)) → Prop) (J33 : Int32 → Int32 → Int32 → (Nat → Int32) → Prop) (x2 : Int32) (call' : Int32) (cnt' : Int32) (swf' : Nat → Int32) : Prop := (12 ≤ x2 → P (call', cnt', swf')) ∧ (¬ 12 ≤ x2 → ((b2i (zhas p1 x2)) = 0 → ∀ y_3 : Int32, y_3 = x2 + 1 → (J33 y_3 call' cnt' swf')) ∧ (¬ (b2i (zhas p1 x2)) = 0 → vp_in x2 12 ∧ vp_in x2 12 ∧ ∀ y_6 : Int32, y_6 = x2 + 1 → (J33 y_6 call' cnt' (upd swf' x2.toNatClampNeg ((swf' x2.toNatClampNeg) + 1)))))
def ve_X2_note (cnt : Int32) (call : Int32) (swf : Nat → Int32) (p1 : Int32) (P : (Int32 × Int32 × (Nat → Int32)) → Prop) (J33 : Int32 → Int32 → Int32 → (Nat → Int32) → Prop) : Prop := (cnt = 0 → (J33 0 p1 (cnt + 1) swf)) ∧ (¬ cnt = 0 → (J33 0 (call &&& p1) (cnt + 1) swf))
def ve_X2_countOfThoseWith (cnt : Int32) (call : Int32) (swf : Nat → Int32) (p1 : Int32) (P : Int32 → Unit → Prop)  : Prop := (p1 < 0 → P 0 ()) ∧ (¬ p1 < 0 → (12 ≤ p1 → P 0 ()) ∧ (¬ 12 ≤ p1 → vp_in p1 12 ∧ P (swf p1.toNatClampNeg) ()))
def vs_X2_list_40 (cnt : Int32) (call : Int32) (swf : Nat → Int32) (cc : Int32) (ac : Int32) (fc : Int32) (lc : Int32) (f : Nat → Int32) (p2 : Int32) (P : (Int32 × Int32 × (Nat → Int32)) → Prop) (J40 : Int32 → Int32 → Int32 → Int32 → Int32 → Int32 → Int32 → (Nat → Int32) → Prop) (x3 : Int32) (x4 : Int32) (x5 : Int32) (x6 : Int32) (x7 : Int32) (cnt' : Int32) (call' : Int32) (swf' : Nat → Int32) : Prop := (4096 ≤ x7 → P (cnt', call', swf')) ∧ (¬ 4096 ≤ x7 → ((b2i (zsh cc ac fc lc f (x4 ||| x6) x3)) = 0 → ∀ y_3 : Int32, y_3 = (x6 - x5) &&& x5 → (y_3 = 0 → P (cnt', call', swf')) ∧ (¬ y_3 = 0 → ∀ y_5 : Int32, y_5 = x7 + 1 → (J40 x3 x4 x5 y_3 y_5 cnt' call' swf'))) ∧ (¬ (b2i (zsh cc ac fc lc f (x4 ||| x6) x3)) = 0 → ∀ y_6 : Int32, y_6 = (x6 - x5) &&& x5 → (y_6 = 0 → P (cnt' + 1, if cnt' = 0 then (x4 ||| x6) else call' &&& (x4 ||| x6), znt swf' (x4 ||| x6))) ∧ (¬ y_6 = 0 → ∀ y_8 : Int32, y_8 = x7 + 1 → (J40 x3 x4 x5 y_6 y_8 (cnt' + 1) (if cnt' = 0 then (x4 ||| x6) else call' &&& (x4 ||| x6)) (znt swf' (x4 ||| x6))))))
def ve_X2_list (cnt : Int32) (call : Int32) (swf : Nat → Int32) (cc : Int32) (ac : Int32) (fc : Int32) (lc : Int32) (f : Nat → Int32) (p2 : Int32) (P : (Int32 × Int32 × (Nat → Int32)) → Prop) (J40 : Int32 → Int32 → Int32 → Int32 → Int32 → Int32 → Int32 → (Nat → Int32) → Prop) : Prop := ∀ y_9 : Int32, y_9 = zni f p2 9 → (y_9 = 0 → P (0, 0, mz12 swf)) ∧ (¬ y_9 = 0 → ∀ y_11 : Int32, y_11 = zfo cc ac fc lc f p2 → ∀ y_12 : Int32, y_12 = (zro cc ac fc lc f p2) &&& (y_11 ^^^ (-1)) → (J40 y_9 y_11 y_12 0 0 0 0 (mz12 swf)))
def vs_X3_countSolutions_2 (cc : Int32) (ac : Int32) (fc : Int32) (lc : Int32) (f : Nat → Int32) (p1 : Int32) (p2 : Int32) (d : Nat) (P : Int32 → ((Nat → Int32)) → Prop) (J2 : Int32 → (Nat → Int32) → Prop) (J40 : Int32 → Int32 → Int32 → (Nat → Int32) → Prop) (x3 : Int32) (f' : Nat → Int32) : Prop := ((bc ac) ≤ x3 → (x3 < (bc ac) → (J40 x3 0 1 f')) ∧ (¬ x3 < (bc ac) → P 1 (f'))) ∧ (¬ (bc ac) ≤ x3 → ((zni f' x3 9) = 0 → (x3 < (bc ac) → (J40 x3 0 1 f')) ∧ (¬ x3 < (bc ac) → P 1 (f'))) ∧ (¬ (zni f' x3 9) = 0 → ∀ y_14 : Int32, y_14 = x3 + 1 → (J2 y_14 f')))
def vs_X3_countSolutions_40 (cc : Int32) (ac : Int32) (fc : Int32) (lc : Int32) (f : Nat → Int32) (p1 : Int32) (p2 : Int32) (d : Nat) (P : Int32 → ((Nat → Int32)) → Prop) (J2 : Int32 → (Nat → Int32) → Prop) (J40 : Int32 → Int32 → Int32 → (Nat → Int32) → Prop) (x3 : Int32) (x4 : Int32) (x5 : Int32) (f' : Nat → Int32) : Prop := (9 < x5 → P x4 (f')) ∧ (¬ 9 < x5 → (p2 ≤ x4 → P x4 (f')) ∧ (¬ p2 ≤ x4 → ((b2i (decide (zle f' x5 9 0 < bc (f' 0)))) = 0 → ∀ y_4 : Int32, y_4 = x5 + 1 → (J40 x3 x4 y_4 f')) ∧ (¬ (b2i (decide (zle f' x5 9 0 < bc (f' 0)))) = 0 → ((b2i (zct cc ac fc lc f' x3 x5)) = 0 → ∀ y_6 : Int32, y_6 = x5 + 1 → (J40 x3 x4 y_6 (zctf f' x3 x5))) ∧ (¬ (b2i (zct cc ac fc lc f' x3 x5)) = 0 → (zrp ac (zwr (zctf f' x3 x5) x3 x5) (x3 + 1) (p2 - x4) d) ∧ ∀ y_8 : Int32, y_8 = x4 + (zcs cc ac fc lc (zwr (zctf f' x3 x5) x3 x5) (x3 + 1) (p2 - x4)) → ∀ y_9 : Int32, y_9 = x5 + 1 → (J40 x3 y_8 y_9 (zwr (zwr (zctf f' x3 x5) x3 x5) x3 0))))))
def ve_X3_countSolutions (cc : Int32) (ac : Int32) (fc : Int32) (lc : Int32) (f : Nat → Int32) (p1 : Int32) (p2 : Int32) (d : Nat) (P : Int32 → ((Nat → Int32)) → Prop) (J2 : Int32 → (Nat → Int32) → Prop) (J40 : Int32 → Int32 → Int32 → (Nat → Int32) → Prop) : Prop := (J2 p1 f)
def vs_X3_solveFrom_27 (cc : Int32) (ac : Int32) (fc : Int32) (lc : Int32) (f : Nat → Int32) (fnf : Nat → Int32) (p1 : Int32) (d : Nat) (P : Int32 → ((Nat → Int32)) → Prop) (J27 : Int32 → Int32 → (Nat → Int32) → Prop) (x3 : Int32) (x4 : Int32) (f' : Nat → Int32) : Prop := (9 ≤ x4 → P 0 (f')) ∧ (¬ 9 ≤ x4 → ((b2i (decide (zle f' x3 9 0 < bc (f' 0)))) = 0 → (x3 = 9 → ∀ y_6 : Int32, y_6 = x4 + 1 → (J27 1 y_6 f')) ∧ (¬ x3 = 9 → ∀ y_4 : Int32, y_4 = x3 + 1 → ∀ y_5 : Int32, y_5 = x4 + 1 → (J27 y_4 y_5 f'))) ∧ (¬ (b2i (decide (zle f' x3 9 0 < bc (f' 0)))) = 0 → ((b2i (zct cc ac fc lc f' p1 x3)) = 0 → (x3 = 9 → ∀ y_11 : Int32, y_11 = x4 + 1 → (J27 1 y_11 (zctf f' p1 x3))) ∧ (¬ x3 = 9 → ∀ y_9 : Int32, y_9 = x3 + 1 → ∀ y_10 : Int32, y_10 = x4 + 1 → (J27 y_9 y_10 (zctf f' p1 x3)))) ∧ (¬ (b2i (zct cc ac fc lc f' p1 x3)) = 0 → (zrq ac (zwr (zctf f' p1 x3) p1 x3) fnf (p1 + 1) d) ∧ ((b2i (zsf cc ac fc lc (zwr (zctf f' p1 x3) p1 x3) fnf (p1 + 1)).isSome) = 0 → (x3 = 9 → ∀ y_17 : Int32, y_17 = x4 + 1 → (J27 1 y_17 (zwr ((zsf cc ac fc lc (zwr (zctf f' p1 x3) p1 x3) fnf (p1 + 1)).getD (zwr (zctf f' p1 x3) p1 x3)) p1 0))) ∧ (¬ x3 = 9 → ∀ y_15 : Int32, y_15 = x3 + 1 → ∀ y_16 : Int32, y_16 = x4 + 1 → (J27 y_15 y_16 (zwr ((zsf cc ac fc lc (zwr (zctf f' p1 x3) p1 x3) fnf (p1 + 1)).getD (zwr (zctf f' p1 x3) p1 x3)) p1 0)))) ∧ (¬ (b2i (zsf cc ac fc lc (zwr (zctf f' p1 x3) p1 x3) fnf (p1 + 1)).isSome) = 0 → P 1 ((zsf cc ac fc lc (zwr (zctf f' p1 x3) p1 x3) fnf (p1 + 1)).getD (zwr (zctf f' p1 x3) p1 x3))))))
def ve_X3_solveFrom (cc : Int32) (ac : Int32) (fc : Int32) (lc : Int32) (f : Nat → Int32) (fnf : Nat → Int32) (p1 : Int32) (d : Nat) (P : Int32 → ((Nat → Int32)) → Prop) (J27 : Int32 → Int32 → (Nat → Int32) → Prop) : Prop := (p1 < 0 → P 1 (f)) ∧ (¬ p1 < 0 → ((bc ac) ≤ p1 → P 1 (f)) ∧ (¬ (bc ac) ≤ p1 → (p1 < 12 → vp_in p1 12 ∧ ∀ y_22 : Int32, y_22 = fnf p1.toNatClampNeg → (J27 y_22 0 f)) ∧ (¬ p1 < 12 → P 1 (f))))
theorem i64_lt0 (x : Int32) : x.toInt64 = 0 ↔ x = 0 := by
  constructor
  · intro h
    have := congrArg Int64.toInt32 h
    simpa using this
  · rintro rfl; rfl
theorem pe_X1_nextBelow (ds : Int64) (p1 : Int32) : ve_X1_nextBelow ds p1 (fun (r : Int32) (u : Int64) => r = znb (mdr ds) p1 ∧ u = (mdr ds))  := by
  refine ⟨fun c => ?_, fun c => ⟨?_, ?_⟩⟩
  · exact ⟨by unfold znb; rw [if_neg (Int32.not_lt.mpr c)], rfl⟩
  · rw [i64_lt0]; rintro rfl; exact c (by decide)
  · exact ⟨by unfold znb; rw [if_pos (Int32.not_le.mp c)]; rfl, rfl⟩
def I_X2_forget_12 (cnt : Int32) (call : Int32) (swf : Nat → Int32) : Int32 → Int32 → Int32 → (Nat → Int32) → Prop := fun x1 cnt' call' swf' => cnt' = 0 ∧ call' = 0 ∧ ∃ k : Nat, k ≤ 12 ∧ x1 = nI k ∧ swf' = fun i => if i < k then 0 else swf i
def mu_X2_forget_12 (cnt : Int32) (call : Int32) (swf : Nat → Int32) : Int32 → Int32 → Int32 → (Nat → Int32) → Nat := fun x1 cnt' call' swf' => 12 - x1.toNatClampNeg
theorem pl_X2_forget_12 (cnt : Int32) (call : Int32) (swf : Nat → Int32) : ∀ (x1 : Int32) (cnt' : Int32) (call' : Int32) (swf' : Nat → Int32), I_X2_forget_12 cnt call swf x1 cnt' call' swf' → vs_X2_forget_12 cnt call swf (fun (u : Int32 × Int32 × (Nat → Int32)) => u = (0, 0, mz12 swf)) (fun (x19 : Int32) (cnt9 : Int32) (call9 : Int32) (swf9 : Nat → Int32) => I_X2_forget_12 cnt call swf x19 cnt9 call9 swf9 ∧ mu_X2_forget_12 cnt call swf x19 cnt9 call9 swf9 < mu_X2_forget_12 cnt call swf x1 cnt' call' swf') x1 cnt' call' swf' := by
  rintro x1 cnt' call' swf' ⟨rfl, rfl, k, hk, rfl, ef⟩
  refine ⟨fun c => ?_, fun c => ?_⟩
  · have c := k_le (a := 12) (by decide) (by omega) c
    obtain rfl : k = 12 := by omega
    show (_, _, _) = (_, _, _)
    rw [ef]; rfl
  · have c := k_nle (a := 12) (by decide) (by omega) c
    rw [nI_clamp (by omega)]
    refine ⟨vp_in_nI c (by decide), ?_⟩
    rintro y rfl
    exact ⟨⟨rfl, rfl, k + 1, by omega, nI_1 k, upd_step ef rfl⟩, hmu 12 c (by decide)⟩
theorem pe_X2_forget (cnt : Int32) (call : Int32) (swf : Nat → Int32) : ve_X2_forget cnt call swf (fun (u : Int32 × Int32 × (Nat → Int32)) => u = (0, 0, mz12 swf)) (I_X2_forget_12 cnt call swf) := ⟨rfl, rfl, 0, by decide, rfl, by funext i; simp⟩
def I_X2_note_33 (cnt : Int32) (call : Int32) (swf : Nat → Int32) (p1 : Int32) : Int32 → Int32 → Int32 → (Nat → Int32) → Prop := fun x2 call' cnt' swf' => call' = (if cnt = 0 then p1 else call &&& p1) ∧ cnt' = cnt + 1 ∧ ∃ k : Nat, k ≤ 12 ∧ x2 = nI k ∧ swf' = fun i => if i < k then znt swf p1 i else swf i
def mu_X2_note_33 (cnt : Int32) (call : Int32) (swf : Nat → Int32) (p1 : Int32) : Int32 → Int32 → Int32 → (Nat → Int32) → Nat := fun x2 call' cnt' swf' => 12 - x2.toNatClampNeg
theorem pl_X2_note_33 (cnt : Int32) (call : Int32) (swf : Nat → Int32) (p1 : Int32) : ∀ (x2 : Int32) (call' : Int32) (cnt' : Int32) (swf' : Nat → Int32), I_X2_note_33 cnt call swf p1 x2 call' cnt' swf' → vs_X2_note_33 cnt call swf p1 (fun (u : Int32 × Int32 × (Nat → Int32)) => u = (if cnt = 0 then p1 else call &&& p1, cnt + 1, znt swf p1)) (fun (x29 : Int32) (call9 : Int32) (cnt9 : Int32) (swf9 : Nat → Int32) => I_X2_note_33 cnt call swf p1 x29 call9 cnt9 swf9 ∧ mu_X2_note_33 cnt call swf p1 x29 call9 cnt9 swf9 < mu_X2_note_33 cnt call swf p1 x2 call' cnt' swf') x2 call' cnt' swf' := by
  rintro x2 call' cnt' swf' ⟨rfl, rfl, k, hk, rfl, ef⟩
  refine ⟨fun c => ?_, fun c => ?_⟩
  · have c := k_le (a := 12) (by decide) (by omega) c
    obtain rfl : k = 12 := by omega
    show (_, _, _) = (_, _, _)
    rw [upd_all ef (h := znt swf p1) (fun i hi => by simp [znt, hi])]
  · have c := k_nle (a := 12) (by decide) (by omega) c
    have e2 : swf' k = swf k := by rw [ef]; simp
    rw [nI_clamp (by omega), e2]
    refine ⟨fun c2 => ?_, fun c2 => ⟨vp_in_nI c (by decide), vp_in_nI c (by decide), ?_⟩⟩
    · rintro y rfl
      rw [b2i_eq0] at c2
      have hs : upd swf' k (swf k) = fun i => if i < k + 1 then znt swf p1 i else swf i := upd_step ef (by simp [znt, c, c2])
      have hn : upd swf' k (swf k) = swf' := by
        funext i
        unfold upd
        split
        · next e => rw [e, e2]
        · rfl
      exact ⟨⟨rfl, rfl, k + 1, by omega, nI_1 k, by rw [← hn]; exact hs⟩, hmu 12 c (by decide)⟩
    · rintro y rfl
      rw [b2i_ne0] at c2
      exact ⟨⟨rfl, rfl, k + 1, by omega, nI_1 k, upd_step ef (by simp [znt, c, c2])⟩, hmu 12 c (by decide)⟩
theorem pe_X2_note (cnt : Int32) (call : Int32) (swf : Nat → Int32) (p1 : Int32) : ve_X2_note cnt call swf p1 (fun (u : Int32 × Int32 × (Nat → Int32)) => u = (if cnt = 0 then p1 else call &&& p1, cnt + 1, znt swf p1)) (I_X2_note_33 cnt call swf p1) := by
  refine ⟨fun c => ⟨by rw [if_pos c], rfl, 0, by decide, rfl, by funext i; simp⟩, fun c => ⟨by rw [if_neg c], rfl, 0, by decide, rfl, by funext i; simp⟩⟩
theorem pe_X2_countOfThoseWith (cnt : Int32) (call : Int32) (swf : Nat → Int32) (p1 : Int32) : ve_X2_countOfThoseWith cnt call swf p1 (fun (r : Int32) (u : Unit) => r = (if ¬ p1 < 0 ∧ p1 < 12 then swf p1.toNatClampNeg else 0))  := by
  refine ⟨fun c => ?_, fun c => ⟨fun c2 => ?_, fun c2 => ⟨?_, ?_⟩⟩⟩
  · simp [c]
  · show (0 : Int32) = _
    rw [if_neg (fun q => by have := q.2; rw [fx_le] at c2; rw [fx_lt] at this; omega)]
  · rw [vp_in_iff]; rw [fx_lt] at c; rw [fx_le] at c2; have h0 : (0 : Int32).toInt = 0 := by decide
    have h1 : (12 : Int32).toInt = 12 := by decide
    omega
  · show swf p1.toNatClampNeg = _
    rw [if_pos ⟨c, by rw [fx_lt]; rw [fx_le] at c2; omega⟩]
def I_X2_list_40 (cnt : Int32) (call : Int32) (swf : Nat → Int32) (cc : Int32) (ac : Int32) (fc : Int32) (lc : Int32) (f : Nat → Int32) (p2 : Int32) : Int32 → Int32 → Int32 → Int32 → Int32 → Int32 → Int32 → (Nat → Int32) → Prop := fun x3 x4 x5 x6 x7 cnt' call' swf' => ∃ k j : Nat, k + (j + 1) = 4097 ∧ x7 = nI k ∧ zliL cc ac fc lc f x3 x4 x5 j x6 (cnt', call', swf') = zli cc ac fc lc f p2 swf
def mu_X2_list_40 (cnt : Int32) (call : Int32) (swf : Nat → Int32) (cc : Int32) (ac : Int32) (fc : Int32) (lc : Int32) (f : Nat → Int32) (p2 : Int32) : Int32 → Int32 → Int32 → Int32 → Int32 → Int32 → Int32 → (Nat → Int32) → Nat := fun x3 x4 x5 x6 x7 cnt' call' swf' => 4096 - x7.toNatClampNeg
theorem pl_X2_list_40 (cnt : Int32) (call : Int32) (swf : Nat → Int32) (cc : Int32) (ac : Int32) (fc : Int32) (lc : Int32) (f : Nat → Int32) (p2 : Int32) : ∀ (x3 : Int32) (x4 : Int32) (x5 : Int32) (x6 : Int32) (x7 : Int32) (cnt' : Int32) (call' : Int32) (swf' : Nat → Int32), I_X2_list_40 cnt call swf cc ac fc lc f p2 x3 x4 x5 x6 x7 cnt' call' swf' → vs_X2_list_40 cnt call swf cc ac fc lc f p2 (fun (u : Int32 × Int32 × (Nat → Int32)) => u = ((zli cc ac fc lc f p2 swf).1, (zli cc ac fc lc f p2 swf).2.1, (zli cc ac fc lc f p2 swf).2.2)) (fun (x39 : Int32) (x49 : Int32) (x59 : Int32) (x69 : Int32) (x79 : Int32) (cnt9 : Int32) (call9 : Int32) (swf9 : Nat → Int32) => I_X2_list_40 cnt call swf cc ac fc lc f p2 x39 x49 x59 x69 x79 cnt9 call9 swf9 ∧ mu_X2_list_40 cnt call swf cc ac fc lc f p2 x39 x49 x59 x69 x79 cnt9 call9 swf9 < mu_X2_list_40 cnt call swf cc ac fc lc f p2 x3 x4 x5 x6 x7 cnt' call' swf') x3 x4 x5 x6 x7 cnt' call' swf' := by
  rintro x3 x4 x5 x6 x7 cnt' call' swf' ⟨k, j, hkj, rfl, he⟩
  refine ⟨fun c => ?_, fun c => ?_⟩
  · have c := k_le (a := 4096) (by decide) (by omega) c
    obtain rfl : j = 0 := by omega
    show (_, _, _) = (_, _, _)
    rw [← he]; rfl
  · have c := k_nle (a := 4096) (by decide) (by omega) c
    obtain ⟨j, rfl⟩ : ∃ j', j = j' + 1 := ⟨j - 1, by omega⟩
    have hm : 4096 - (nI k + 1).toNatClampNeg < 4096 - (nI k).toNatClampNeg := hmu 4096 c (by decide)
    refine ⟨fun c2 => ?_, fun c2 => ?_⟩
    · rw [b2i_eq0] at c2
      have hq : zlst cc ac fc lc f x3 x4 (cnt', call', swf') x6 = (cnt', call', swf') := by unfold zlst; rw [c2]; rfl
      simp only [zliL, hq] at he
      rintro y rfl
      refine ⟨fun c3 => ?_, fun c3 => ?_⟩
      · rw [if_pos c3] at he
        show (_, _, _) = (_, _, _)
        rw [← he]
      · rw [if_neg c3] at he
        rintro y rfl
        exact ⟨⟨k + 1, j, by omega, nI_1 k, he⟩, hm⟩
    · rw [b2i_ne0] at c2
      have hq : zlst cc ac fc lc f x3 x4 (cnt', call', swf') x6 = (cnt' + 1, if cnt' = 0 then (x4 ||| x6) else call' &&& (x4 ||| x6), znt swf' (x4 ||| x6)) := by unfold zlst; rw [c2]; rfl
      simp only [zliL, hq] at he
      rintro y rfl
      refine ⟨fun c3 => ?_, fun c3 => ?_⟩
      · rw [if_pos c3] at he
        show (_, _, _) = (_, _, _)
        rw [← he]
      · rw [if_neg c3] at he
        rintro y rfl
        exact ⟨⟨k + 1, j, by omega, nI_1 k, he⟩, hm⟩
theorem pe_X2_list (cnt : Int32) (call : Int32) (swf : Nat → Int32) (cc : Int32) (ac : Int32) (fc : Int32) (lc : Int32) (f : Nat → Int32) (p2 : Int32) : ve_X2_list cnt call swf cc ac fc lc f p2 (fun (u : Int32 × Int32 × (Nat → Int32)) => u = ((zli cc ac fc lc f p2 swf).1, (zli cc ac fc lc f p2 swf).2.1, (zli cc ac fc lc f p2 swf).2.2)) (I_X2_list_40 cnt call swf cc ac fc lc f p2) := by
  rintro y rfl
  refine ⟨fun c => ?_, fun c => ?_⟩
  · show (_, _, _) = (_, _, _)
    unfold zli; rw [if_pos c]
  · rintro y rfl y2 rfl
    refine ⟨0, 4096, rfl, rfl, ?_⟩
    unfold zli; rw [if_neg c]
