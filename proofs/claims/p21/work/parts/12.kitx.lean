/-! throwing methods: their frame -/
def ff_strs : List (Nat × String) := [(49, "a board has 2 to 4 rows and columns, and at most 12 cells"), (84, "the board of clues would not be sound"), (87, "a seed is 0 to 2147483647"), (118, "the cell is not empty, or the number cannot be put there"), (126, "no cell was filled in"), (137, "a rule is 0 to 2"), (158, "most is 1 to 5"), (166, "there is no such cell"), (169, "a number is 1 to 9")]
def ff_ia : String := "java/lang/IllegalArgumentException"
def ff_is : String := "java/lang/IllegalStateException"
def ff_io : String := "java/lang/IndexOutOfBoundsException"
def ff_cast : List (String × String) := [(ff_ia, ff_ia), (ff_is, ff_is), (ff_io, ff_io)]
def ff_ncast : List (String × String) := [(ff_ia, ff_is), (ff_io, ff_is)]
def ff_decl : List MethodName := [Bundle.initS "java/lang/RuntimeException", Bundle.initS "java/lang/Exception", Bundle.initS Bundle.tN]
def ffx (A : Nat → Prop) (U : State) (H : Heap) : Prop := (∀ q ∈ ff_strs, ∃ sa : Nat, vk_R RX4 q.1 q.2 sa U) ∧ vx_Zq Bundle.tN "UNASSIGNED_STACK" Bundle.steD A U H ∧ vx_Zq Bundle.tN "SUPPRESSED_SENTINEL" Bundle.listD A U H ∧ (∀ q ∈ ff_cast, va_Nw (.castable q.1 q.2) U) ∧ (∀ q ∈ ff_ncast, va_Nc q.1 q.2 U) ∧ ∀ q ∈ ff_decl, va_Nw (.declares q) U
theorem ffx_warm {A : Nat → Prop} {s U : State} {H : Heap} (hW : s.WarmedH U.vm) (h : ffx A s H) : ffx A U H := by
  obtain ⟨h1, h2, h3, h4, h5, h6⟩ := h
  exact ⟨fun q hq => by obtain ⟨sa, z⟩ := h1 q hq; exact ⟨sa, vk_R.warm hW z⟩, vx_Zq.moved hW.alike h2, vx_Zq.moved hW.alike h3, fun q hq => va_Nw.warmC hW (h4 q hq), fun q hq => va_Nc.moved hW.alike (h5 q hq), fun q hq => va_Nw.warmD hW (h6 q hq)⟩
theorem ffx_same {A : Nat → Prop} {u U : State} {H : Heap} (hv : U.vm = u.vm) (h : ffx A u H) : ffx A U H := by
  obtain ⟨h1, h2, h3, h4, h5, h6⟩ := h
  have ha : u.vm.Alike U.vm := by rw [hv]; exact Vm.Alike.refl _
  exact ⟨fun q hq => by obtain ⟨sa, z⟩ := h1 q hq; exact ⟨sa, vk_R.same hv z⟩, vx_Zq.moved ha h2, vx_Zq.moved ha h3, fun q hq => va_Nw.same rfl hv.symm (h4 q hq), fun q hq => va_Nc.moved ha (h5 q hq), fun q hq => va_Nw.same rfl hv.symm (h6 q hq)⟩
theorem ffx_kept {A B : Nat → Prop} {U : State} {H H1 : Heap} (h : ffx A U H) (hq : ∀ a : Nat, a < H.size → ¬ A a → H1[a]? = H[a]?) (hAB : ∀ q, B q → A q) : ffx B U H1 := by
  obtain ⟨h1, h2, h3, h4, h5, h6⟩ := h
  exact ⟨h1, vx_Zq.narrow (vx_Zq.kept h2 hq) hAB, vx_Zq.narrow (vx_Zq.kept h3 hq) hAB, h4, h5, h6⟩
def ff_nms : List String := ["java/lang/RuntimeException", "java/lang/Exception"]
def ff_Bl (X : String) : List Cond := [.castable X X, .declares (Bundle.initS "java/lang/RuntimeException"), .declares (Bundle.initS "java/lang/Exception"), .declares (Bundle.initS Bundle.tN)]
theorem ff_Bok {A : Nat → Prop} {s : State} {H : Heap} {args : Array Value} {X : String} (hZ : ffx A s H) (hX : (X, X) ∈ ff_cast) : ∀ w ∈ ff_Bl X, w.before args s = true := by
  obtain ⟨h1, h2, h3, h4, h5, h6⟩ := hZ
  exact vx_c (va_Nw.use rfl (h4 _ hX)) (vx_c (va_Nw.use rfl (h6 _ (List.mem_of_getElem? (i := 0) rfl))) (vx_c (va_Nw.use rfl (h6 _ (List.mem_of_getElem? (i := 1) rfl))) (vx_c (va_Nw.use rfl (h6 _ (List.mem_of_getElem? (i := 2) rfl))) vx_n)))
theorem ff_h2ia : ∀ w ∈ (vx_atS RX4 51 ff_ia ff_nms).filter (fun w => !goodWord w), w ∈ ff_Bl ff_ia := by decide +kernel
theorem ff_h2is : ∀ w ∈ (vx_atS RX4 86 ff_is ff_nms).filter (fun w => !goodWord w), w ∈ ff_Bl ff_is := by decide +kernel
theorem ff_h2io : ∀ w ∈ (vx_atS RX4 168 ff_io ff_nms).filter (fun w => !goodWord w), w ∈ ff_Bl ff_io := by decide +kernel
theorem ff_goia : ∀ w ∈ Cond.classLink RX4 47 ff_ia :: Cond.initialized ff_ia :: vx_atS RX4 51 ff_ia ff_nms, vx_ot w = true := by decide +kernel
theorem ff_gois : ∀ w ∈ Cond.classLink RX4 82 ff_is :: Cond.initialized ff_is :: vx_atS RX4 86 ff_is ff_nms, vx_ot w = true := by decide +kernel
theorem ff_goio : ∀ w ∈ Cond.classLink RX4 164 ff_io :: Cond.initialized ff_io :: vx_atS RX4 168 ff_io ff_nms, vx_ot w = true := by decide +kernel
theorem ff_fitia : Bundle.fit ff_ia = true := by decide +kernel
theorem ff_fitis : Bundle.fit ff_is = true := by decide +kernel
theorem ff_fitio : Bundle.fit ff_io = true := by decide +kernel
theorem ff_fitn : ∀ n ∈ ff_nms, Bundle.fit n = true := by decide +kernel
def xnm : Nat → String | 1 => ff_io | 2 => ff_ia | _ => ff_is
def ffx_Pc (D : va_G) (tys : List (ClassId × FieldType)) (av : List Value) (ws : va_W) (sz : Nat) : Array Value → State → Prop := va_Pc av (fun U => U.heap.size = sz ∧ va_P D vwCl ws U.heap ∧ va_K D vwCl tys U ∧ va_D (fun _ => True) ws ∧ ff_nst U ∧ ffx (va_A ws sz) U U.heap)
theorem ffx_blind {D : va_G} {tys : List (ClassId × FieldType)} {av : List Value} {ws : va_W} {sz : Nat} : FrameBlind (ffx_Pc D tys av ws sz) := fun a U g mk q => by
  obtain ⟨q0, q1, qP, qK, qD, qN, qZ⟩ := q
  exact ⟨q0, q1, qP, va_K.moved (u := U) (U := U.calling g mk a) (Vm.Alike.refl U.vm) qK, qD, ff_nst_same rfl qN, ffx_same (u := U) (U := U.calling g mk a) rfl qZ⟩
theorem ffx_preS {s : State} {H : Heap} {D : va_G} {tys : List (ClassId × FieldType)} {As : List Value} {wc : va_W} {A A0 : Nat → Prop} {locs : List Loc} (hP : va_P D vwCl wc H) (hK : va_K D vwCl tys s) (hD : va_D A0 wc) (hN : ff_nst s) (hZ : ffx A s s.heap) (hS : va_S A s.heap H locs) (hF : ∀ q, va_A wc H.size q → A q) : PreS s H (ffx_Pc D tys As wc H.size) As :=
  ⟨ffx_blind, fun U hU hW => ⟨rfl, by rw [hU], by rw [hU]; exact hP, va_K.moved hW.alike hK, hD.weaken (fun _ _ _ _ => trivial), ff_nst_warm hW hN, by rw [hU]; exact ffx_warm hW (ffx_kept hZ hS.2.1 hF)⟩⟩
theorem ffx_preV {s : State} {H : Heap} {D : va_G} {tys : List (ClassId × FieldType)} {b : Nat} {As : List Value} {wc : va_W} {A A0 : Nat → Prop} {locs : List Loc} {q : vw_C} {ci q0 : Nat} {fs : List Value} (hP : va_P D vwCl wc H) (hK : va_K D vwCl tys s) (hD : va_D A0 wc) (hN : ff_nst s) (hZ : ffx A s s.heap) (hS : va_S A s.heap H locs) (hF : ∀ q, va_A wc H.size q → A q) (hc : vwCl[ci]? = some q) (he : wc[q0]? = some (b, .inr (ci, fs))) : PreV s H q.1 b (ffx_Pc D tys (.ref b :: As) wc H.size) As :=
  ⟨ffx_blind, va_recv hK hP hc he, fun U hU hW => ⟨rfl, by rw [hU], by rw [hU]; exact hP, va_K.moved hW.alike hK, hD.weaken (fun _ _ _ _ => trivial), ff_nst_warm hW hN, by rw [hU]; exact ffx_warm hW (ffx_kept hZ hS.2.1 hF)⟩⟩
/-- what a method that throws leaves -/
def ffx_X {SX : Type} (D : va_G) (tys : List (ClassId × FieldType)) (A : Nat → Prop) (X : String → SX → Prop) (Wx : SX → va_W) : String → State → State → Prop := vx_X (fun _ : SX => True) (fun E u t => X E u ∧ ff_B D tys A (Wx u) t) A
theorem ffx_Xof {SX : Type} {D : va_G} {tys : List (ClassId × FieldType)} {A : Nat → Prop} {X : String → SX → Prop} {Wx : SX → va_W} {E : String} {u : SX} {s t : State} {H : Heap} {locs : List Loc} (hX : X E u) (hP : va_P D vwCl (Wx u) H) (hK : va_K D vwCl tys s) (hD : va_D A (Wx u)) (hS : va_S A s.heap H locs) (ha : s.vm.Alike t.vm) (h1 : H.size ≤ t.heap.size) (h2 : ∀ q : Nat, q < H.size → t.heap[q]? = H[q]?) : ffx_X D tys A X Wx E s t :=
  ⟨u, trivial, ⟨hX, fun k q hk => (hP k q hk).kept (h2 _ (hP k q hk).lt), va_K.moved ha hK, hD⟩, Nat.le_trans hS.1 h1, fun q hq hA => (h2 q (Nat.lt_of_lt_of_le hq hS.1)).trans (hS.2.1 q hq hA)⟩
section FFX
variable {S SX : Type} {l : Launch} {y : MethodName} {ws ws' : List Cond} {rm : Room} {cc : ByteArray} {maxL : Nat} {D : va_G} {tys : List (ClassId × FieldType)} {av : List Value} {wsW : va_W} {sz : Nat} {Wf : S → va_W} {Wx : SX → va_W} {mc ms : Nat}
/-- what the body of a throwing method is given for its throws -/
def ffx_hth (p : Program) (l : Launch) (e : Env) (rm : Room) (s : State) (m : MethodId) (args : Array Value) (below : List Frame) (meth : Method) (c : Code) (cc : ByteArray) (A : Nat → Prop) (Q : State → Prop) (D : va_G) (X : String → SX → Prop) (Wx : SX → va_W) (mc ms : Nat) : Prop :=
  ∀ (cls text : String) (names : List String) (ik is ic : Nat) (u : SX) (H : Heap) (locs : List Loc) (cells slots pc : Nat) (ls : Array Slot), Bundle.fit cls = true → (∀ n ∈ names, Bundle.fit n = true) → (Cond.classLink RX4 ik cls).before args s = true → (Cond.initialized cls).before args s = true → (∃ sa : Nat, vk_R RX4 is text sa s) → (∀ w ∈ vx_atS RX4 ic cls names, w.before args s = true) →
    (∀ w ∈ Cond.classLink RX4 ik cls :: Cond.initialized cls :: vx_atS RX4 ic cls names, vx_ot w = true) → ls.size = c.maxLocals →
    decode cc pc = .ok (.new ik, 3) → decode cc (pc + 3) = .ok (.dup, 1) → decode cc (pc + 4) = .ok (.ldc is, 2) → decode cc (pc + 6) = .ok (.invokespecial ic, 3) → decode cc (pc + 9) = .ok (.athrow, 1) →
    names.length + 3 < rm.frames → 13 * (names.length + 1) + 43 ≤ rm.locals → cells + 1 ≤ rm.cells → slots + 6 ≤ rm.slots → cells + 1 ≤ mc → slots + 6 ≤ ms →
    X cls u → va_P D vwCl (Wx u) H → va_D A (Wx u) → va_S A s.heap H locs → W p l e rm s m args below meth c H locs cells slots Q (F0 m pc ls [])
def ffx_hxo (p : Program) (l : Launch) (e : Env) (rm : Room) (s : State) (m : MethodId) (args : Array Value) (below : List Frame) (meth : Method) (c : Code) (A : Nat → Prop) (Q : State → Prop) (D : va_G) (X : String → SX → Prop) (Wx : SX → va_W) (mc ms : Nat) : Prop :=
  ∀ (E : String) (ce : Cell) (q : Addr) (u : SX) (H : Heap) (locs : List Loc) (cells slots pc : Nat) (ls : Array Slot) (rest : List Value), X E u → va_P D vwCl (Wx u) H → va_D A (Wx u) → va_S A s.heap H locs → H[q]? = some ce → ce.vm = .none → s.vm.findClass E = some ce.cls → cells ≤ mc → slots ≤ ms → vx_W p l e rm s m args below meth c H locs cells slots Q (F0 m pc ls rest) q
theorem ffx_metI {P : Int32 → S → Prop} {X : String → SX → Prop} (hst : l.stackTraces = false) (hy : plainName y.cls = true) (hyc : y.cls = RX4) (hw : ws = Cond.code y cc maxL (some .int) :: ws') (hla : (lg_sl av).length ≤ maxL)
    (body : ∀ (p : Program) (e : Env) (s : State) (m : MethodId) (args : Array Value) (below : List Frame) (meth : Method) (c : Code) (A : Nat → Prop) (Q : State → Prop) (ls : Array Slot) (Hs : Heap),
      p.tables.exec = Jvm.exec → c.code = cc → c.maxLocals = maxL → s.vm.findClass y.cls = some m.cls → (∀ w ∈ ws, w.before args s = true) → ff_nst s → ffx A s s.heap → (∀ q : Nat, s.heap.size ≤ q → A q) → va_K D vwCl tys s → va_P D vwCl wsW Hs → va_D A wsW → va_S A s.heap Hs [] →
      (∀ (v : Int32) (u : S) (H : Heap) (locs : List Loc) (cells slots pc : Nat) (ls : Array Slot), P v u → va_P D vwCl (Wf u) H → va_D A (Wf u) → va_S A s.heap H locs → cells ≤ mc → slots ≤ ms → decode cc pc = .ok (.ireturn, 1) → W p l e rm s m args below meth c H locs cells slots Q (F0 m pc ls [.int v])) →
      ffx_hxo p l e rm s m args below meth c A Q D X Wx mc ms → ffx_hth p l e rm s m args below meth c cc A Q D X Wx mc ms →
      lv_has ls maxL (lv_args 0 av) → W p l e rm s m args below meth c Hs [] 0 0 Q (F0 m 0 ls [])) :
    vx_Met l y ws rm (ffx_Pc D tys av wsW sz) (va_Qi P (fun u t => ff_B D tys (va_A wsW sz) (Wf u) t) (va_A wsW sz)) (ffx_X D tys (va_A wsW sz) X Wx) mc ms (va_A wsW sz) := by
  refine vx_ofW (cc := cc) (maxL := maxL) (ret := some .int) hy hw ?_
  intro p e s m args below meth c s₁ B hml hne hv
  obtain ⟨rfl, hsz, hP, hK, hD0, hN, hZ⟩ := hv
  have hx := B.exec
  have hb := B.bytes
  have hr := B.returns
  have hts := atoms_spec (ws := ws) B.pre
  have hown : s.vm.findClass y.cls = some m.cls := findClass_of_methodNamed B.named
  have hlocks := B.notSynchronized
  subst hsz
  have hD := hD0.self (sz := s.heap.size)
  have hl := lv_entry av (n := maxL) hla
  rw [lg_entry_eq]
  refine body p e s m _ below meth c (va_A wsW s.heap.size) _ _ _ hx hb hml hown hts hN hZ (fun q h => Or.inr h) hK hP hD va_S.rf (fun v u H locs cells slots pc ls hp hP hD hS hc hs hdg => W.widen hc hs (vx_ret (W.iret hx hb hr (fun t ht hW => ⟨⟨v, u, rfl, hp, by rw [ht]; exact hP, va_K.moved hW.alike hK, hD⟩, hS.F ht⟩) hS.2.2 hdg))) ?_ ?_ hl
  · intro E ce q u H locs cells slots pc ls rest hX hP hD hS h1 h2 h3 hc hs
    exact vx_out (fun x hx => (hne x hx).elim) hlocks h1 h2 h3 (fun t ht ha => ffx_Xof hX hP hK hD hS ha (by rw [ht]; exact Nat.le_refl _) (fun q _ => by rw [ht])) hS.2.2 hc hs
  · intro cls text names ik is ic u H locs cells slots pc ls h1 h2 h3 h4 h5 h6 h7 h8 d0 d3 d4 d6 d9 r1 r2 r3 r4 hc hs hX hP hD hS
    obtain ⟨sa, h5⟩ := h5
    rw [hyc] at hown
    exact vx_throwS hx hb hst hown h1 h2 h3 h4 h5 h6 h7 hZ.2.1 hZ.2.2.1 hS h8 d0 d3 d4 d6 d9 (fun x hx => (hne x hx).elim) r1 (by simpa using r2) r3 r4 hlocks (fun t ha g1 g2 => ffx_Xof hX hP hK hD hS ha g1 g2) hS.2.2 hc hs
theorem ffx_metZ {P : Int32 → S → Prop} {X : String → SX → Prop} (hst : l.stackTraces = false) (hy : plainName y.cls = true) (hyc : y.cls = RX4) (hw : ws = Cond.code y cc maxL (some .boolean) :: ws') (hla : (lg_sl av).length ≤ maxL)
    (body : ∀ (p : Program) (e : Env) (s : State) (m : MethodId) (args : Array Value) (below : List Frame) (meth : Method) (c : Code) (A : Nat → Prop) (Q : State → Prop) (ls : Array Slot) (Hs : Heap),
      p.tables.exec = Jvm.exec → c.code = cc → c.maxLocals = maxL → s.vm.findClass y.cls = some m.cls → (∀ w ∈ ws, w.before args s = true) → ff_nst s → ffx A s s.heap → (∀ q : Nat, s.heap.size ≤ q → A q) → va_K D vwCl tys s → va_P D vwCl wsW Hs → va_D A wsW → va_S A s.heap Hs [] →
      (∀ (v : Int32) (u : S) (H : Heap) (locs : List Loc) (cells slots pc : Nat) (ls : Array Slot), narrow .boolean (.int v) = .int v → P v u → va_P D vwCl (Wf u) H → va_D A (Wf u) → va_S A s.heap H locs → cells ≤ mc → slots ≤ ms → decode cc pc = .ok (.ireturn, 1) → W p l e rm s m args below meth c H locs cells slots Q (F0 m pc ls [.int v])) →
      ffx_hxo p l e rm s m args below meth c A Q D X Wx mc ms → ffx_hth p l e rm s m args below meth c cc A Q D X Wx mc ms →
      lv_has ls maxL (lv_args 0 av) → W p l e rm s m args below meth c Hs [] 0 0 Q (F0 m 0 ls [])) :
    vx_Met l y ws rm (ffx_Pc D tys av wsW sz) (va_Qi P (fun u t => ff_B D tys (va_A wsW sz) (Wf u) t) (va_A wsW sz)) (ffx_X D tys (va_A wsW sz) X Wx) mc ms (va_A wsW sz) := by
  refine vx_ofW (cc := cc) (maxL := maxL) (ret := some .boolean) hy hw ?_
  intro p e s m args below meth c s₁ B hml hne hv
  obtain ⟨rfl, hsz, hP, hK, hD0, hN, hZ⟩ := hv
  have hx := B.exec
  have hb := B.bytes
  have hr := B.returns
  have hts := atoms_spec (ws := ws) B.pre
  have hown : s.vm.findClass y.cls = some m.cls := findClass_of_methodNamed B.named
  have hlocks := B.notSynchronized
  subst hsz
  have hD := hD0.self (sz := s.heap.size)
  have hl := lv_entry av (n := maxL) hla
  rw [lg_entry_eq]
  refine body p e s m _ below meth c (va_A wsW s.heap.size) _ _ _ hx hb hml hown hts hN hZ (fun q h => Or.inr h) hK hP hD va_S.rf (fun v u H locs cells slots pc ls hn hp hP hD hS hc hs hdg => W.widen hc hs (vx_ret (W.zret hx hb hr hn (fun t ht hW => ⟨⟨v, u, rfl, hp, by rw [ht]; exact hP, va_K.moved hW.alike hK, hD⟩, hS.F ht⟩) hS.2.2 hdg))) ?_ ?_ hl
  · intro E ce q u H locs cells slots pc ls rest hX hP hD hS h1 h2 h3 hc hs
    exact vx_out (fun x hx => (hne x hx).elim) hlocks h1 h2 h3 (fun t ht ha => ffx_Xof hX hP hK hD hS ha (by rw [ht]; exact Nat.le_refl _) (fun q _ => by rw [ht])) hS.2.2 hc hs
  · intro cls text names ik is ic u H locs cells slots pc ls h1 h2 h3 h4 h5 h6 h7 h8 d0 d3 d4 d6 d9 r1 r2 r3 r4 hc hs hX hP hD hS
    obtain ⟨sa, h5⟩ := h5
    rw [hyc] at hown
    exact vx_throwS hx hb hst hown h1 h2 h3 h4 h5 h6 h7 hZ.2.1 hZ.2.2.1 hS h8 d0 d3 d4 d6 d9 (fun x hx => (hne x hx).elim) r1 (by simpa using r2) r3 r4 hlocks (fun t ha g1 g2 => ffx_Xof hX hP hK hD hS ha g1 g2) hS.2.2 hc hs
theorem ffx_metV {P : S → Prop} {X : String → SX → Prop} (hst : l.stackTraces = false) (hy : plainName y.cls = true) (hyc : y.cls = RX4) (hw : ws = Cond.code y cc maxL none :: ws') (hla : (lg_sl av).length ≤ maxL)
    (body : ∀ (p : Program) (e : Env) (s : State) (m : MethodId) (args : Array Value) (below : List Frame) (meth : Method) (c : Code) (A : Nat → Prop) (Q : State → Prop) (ls : Array Slot) (Hs : Heap),
      p.tables.exec = Jvm.exec → c.code = cc → c.maxLocals = maxL → s.vm.findClass y.cls = some m.cls → (∀ w ∈ ws, w.before args s = true) → ff_nst s → ffx A s s.heap → (∀ q : Nat, s.heap.size ≤ q → A q) → va_K D vwCl tys s → va_P D vwCl wsW Hs → va_D A wsW → va_S A s.heap Hs [] →
      (∀ (u : S) (H : Heap) (locs : List Loc) (cells slots pc : Nat) (ls : Array Slot), P u → va_P D vwCl (Wf u) H → va_D A (Wf u) → va_S A s.heap H locs → cells ≤ mc → slots ≤ ms → decode cc pc = .ok (.return_, 1) → W p l e rm s m args below meth c H locs cells slots Q (F0 m pc ls [])) →
      ffx_hxo p l e rm s m args below meth c A Q D X Wx mc ms → ffx_hth p l e rm s m args below meth c cc A Q D X Wx mc ms →
      lv_has ls maxL (lv_args 0 av) → W p l e rm s m args below meth c Hs [] 0 0 Q (F0 m 0 ls [])) :
    vx_Met l y ws rm (ffx_Pc D tys av wsW sz) (va_Qv P (fun u t => ff_B D tys (va_A wsW sz) (Wf u) t) (va_A wsW sz)) (ffx_X D tys (va_A wsW sz) X Wx) mc ms (va_A wsW sz) := by
  refine vx_ofW (cc := cc) (maxL := maxL) (ret := none) hy hw ?_
  intro p e s m args below meth c s₁ B hml hne hv
  obtain ⟨rfl, hsz, hP, hK, hD0, hN, hZ⟩ := hv
  have hx := B.exec
  have hb := B.bytes
  have hr := B.returns
  have hts := atoms_spec (ws := ws) B.pre
  have hown : s.vm.findClass y.cls = some m.cls := findClass_of_methodNamed B.named
  have hlocks := B.notSynchronized
  subst hsz
  have hD := hD0.self (sz := s.heap.size)
  have hl := lv_entry av (n := maxL) hla
  rw [lg_entry_eq]
  refine body p e s m _ below meth c (va_A wsW s.heap.size) _ _ _ hx hb hml hown hts hN hZ (fun q h => Or.inr h) hK hP hD va_S.rf (fun u H locs cells slots pc ls hp hP hD hS hc hs hdg => W.widen hc hs (vx_ret (W.vret hx hb hr (fun t ht hW => ⟨⟨u, rfl, hp, by rw [ht]; exact hP, va_K.moved hW.alike hK, hD⟩, hS.F ht⟩) hS.2.2 hdg))) ?_ ?_ hl
  · intro E ce q u H locs cells slots pc ls rest hX hP hD hS h1 h2 h3 hc hs
    exact vx_out (fun x hx => (hne x hx).elim) hlocks h1 h2 h3 (fun t ht ha => ffx_Xof hX hP hK hD hS ha (by rw [ht]; exact Nat.le_refl _) (fun q _ => by rw [ht])) hS.2.2 hc hs
  · intro cls text names ik is ic u H locs cells slots pc ls h1 h2 h3 h4 h5 h6 h7 h8 d0 d3 d4 d6 d9 r1 r2 r3 r4 hc hs hX hP hD hS
    obtain ⟨sa, h5⟩ := h5
    rw [hyc] at hown
    exact vx_throwS hx hb hst hown h1 h2 h3 h4 h5 h6 h7 hZ.2.1 hZ.2.2.1 hS h8 d0 d3 d4 d6 d9 (fun x hx => (hne x hx).elim) r1 (by simpa using r2) r3 r4 hlocks (fun t ha g1 g2 => ffx_Xof hX hP hK hD hS ha g1 g2) hS.2.2 hc hs
/-- a body that catches: nothing leaves it but an answer -/
theorem ffs_metI {P : Int32 → S → Prop} {hh : List (Nat × Nat × Nat × Nat)} (hy : plainName y.cls = true) (hw : ws = Cond.codeWith y cc maxL (some .int) hh :: ws') (hla : (lg_sl av).length ≤ maxL)
    (body : ∀ (p : Program) (e : Env) (s : State) (m : MethodId) (args : Array Value) (below : List Frame) (meth : Method) (c : Code) (A : Nat → Prop) (Q : State → Prop) (ls : Array Slot) (Hs : Heap),
      p.tables.exec = Jvm.exec → c.code = cc → c.maxLocals = maxL → s.vm.findClass y.cls = some m.cls → (∀ w ∈ ws, w.before args s = true) → c.exceptionTable.toList = tableOf hh → ff_nst s → ffx A s s.heap → (∀ q : Nat, s.heap.size ≤ q → A q) → va_K D vwCl tys s → va_P D vwCl wsW Hs → va_D A wsW → va_S A s.heap Hs [] →
      (∀ (v : Int32) (u : S) (H : Heap) (locs : List Loc) (cells slots pc : Nat) (ls : Array Slot), P v u → va_P D vwCl (Wf u) H → va_D A (Wf u) → va_S A s.heap H locs → cells ≤ mc → slots ≤ ms → decode cc pc = .ok (.ireturn, 1) → W p l e rm s m args below meth c H locs cells slots Q (F0 m pc ls [.int v])) →
      lv_has ls maxL (lv_args 0 av) → W p l e rm s m args below meth c Hs [] 0 0 Q (F0 m 0 ls [])) :
    Met l y ws rm (ffx_Pc D tys av wsW sz) (va_Qi P (fun u t => ff_B D tys (va_A wsW sz) (Wf u) t) (va_A wsW sz)) mc ms (va_A wsW sz) := by
  refine va_MetW (cc := cc) (maxL := maxL) (ret := some .int) (hh := hh) hy hw ?_
  intro p e s m args below meth c s₁ B hml hv
  obtain ⟨rfl, hsz, hP, hK, hD0, hN, hZ⟩ := hv
  have hx := B.exec
  have hb := B.bytes
  have hr := B.returns
  have hts := atoms_spec (ws := ws) B.pre
  have hown : s.vm.findClass y.cls = some m.cls := findClass_of_methodNamed B.named
  have hlocks := B.notSynchronized
  have htab := vx_table (x := y) B (hts (Cond.codeWith y cc maxL (some .int) hh) (by rw [hw]; exact List.mem_cons_self))
  subst hsz
  have hD := hD0.self (sz := s.heap.size)
  have hl := lv_entry av (n := maxL) hla
  rw [lg_entry_eq]
  exact body p e s m _ below meth c (va_A wsW s.heap.size) _ _ _ hx hb hml hown hts htab hN hZ (fun q h => Or.inr h) hK hP hD va_S.rf (fun v u H locs cells slots pc ls hp hP hD hS hc hs hdg => W.widen hc hs (W.iret hx hb hr (fun t ht hW => ⟨⟨v, u, rfl, hp, by rw [ht]; exact hP, va_K.moved hW.alike hK, hD⟩, hS.F ht⟩) hS.2.2 hdg)) hl
end FFX
section FFXC
variable {S SX : Type} {p : Program} {l : Launch} {e : Env} {R : Room} {s : State} {m : MethodId} {args : Array Value} {below : List Frame} {meth : Method} {c : Code} {H : Heap} {locs : List Loc} {cells slots : Nat} {Q : State → Prop} {pc : Nat} {ls : Array Slot} {rest st0 : List Value} {a : Array Value} {A : Nat → Prop} {H0 : Heap} {mc ms : Nat} {D : va_G} {tys : List (ClassId × FieldType)} {ws wc wr : va_W} {Wf : S → va_W} {Wx : SX → va_W}
theorem ffx_callI {post : Int32 → S → Prop} {X : String → SX → Prop} (hrun : vx_Run p l e R s m args below meth c H locs cells slots mc ms (F0 m pc ls st0) rest (va_Qi post (fun u t => ff_B D tys (va_A wc H.size) (Wf u) t) (va_A wc H.size) a) (ffx_X D tys (va_A wc H.size) X Wx) (va_A wc H.size))
    (hP : va_P D vwCl ws H) (hD : va_D A ws) (hS : va_S A H0 H locs) (hA : ∀ q : Nat, H0.size ≤ q → A q) (isC isR : List Nat) (hC : isC.map (fun i => ws[i]?) = wc.map some) (hR : isR.map (fun i => ws[i]?) = wr.map some) (hn : va_nd isR = true) (hdis : ∀ i ∈ isR, i ∉ isC)
    (kx : ∀ (E : String) (ce : Cell) (q : Addr) (u : SX) (H1 : Heap) (locs1 : List Loc), X E u → va_P D vwCl (wr ++ Wx u) H1 → va_D A (wr ++ Wx u) → va_S A H0 H1 locs1 → H1[q]? = some ce → ce.vm = .none → s.vm.findClass E = some ce.cls → vx_W p l e R s m args below meth c H1 locs1 (cells + mc) (slots + ms) Q (F0 m pc ls rest) q)
    (kk : ∀ (r : Int32) (u : S) (H1 : Heap) (locs1 : List Loc), post r u → va_P D vwCl (wr ++ Wf u) H1 → va_D A (wr ++ Wf u) → va_S A H0 H1 locs1 → W p l e R s m args below meth c H1 locs1 (cells + mc) (slots + ms) Q (F0 m (pc + 3) ls (.int r :: rest))) : W p l e R s m args below meth c H locs cells slots Q (F0 m pc ls st0) := by
  have hF := va_free hD hS hA isC hC
  refine vx_calli hrun hS (fun q _ h => hF q h) hF (fun q _ h => hF q h) (fun E ce q u t H1 locs1 ht hvm _ hB hz hk hS1 h1 h2 h3 => ?_) (fun r u t H1 locs1 ht hvm hp hB hz hk hS1 => ?_)
  · obtain ⟨hX, hP1, hK1, hD1⟩ := hB
    rw [ht] at hP1
    obtain ⟨g1, g2⟩ := va_join hP hD isC isR hC hR hn hdis hk hF hP1 hD1
    exact kx E ce q u H1 locs1 hX g1 g2 hS1 h1 h2 h3
  · obtain ⟨hP1, hK1, hD1⟩ := hB
    rw [ht] at hP1
    obtain ⟨h1, h2⟩ := va_join hP hD isC isR hC hR hn hdis hk hF hP1 hD1
    exact kk r u H1 locs1 hp h1 h2 hS1
theorem ffx_callV {post : S → Prop} {X : String → SX → Prop} (hrun : vx_Run p l e R s m args below meth c H locs cells slots mc ms (F0 m pc ls st0) rest (va_Qv post (fun u t => ff_B D tys (va_A wc H.size) (Wf u) t) (va_A wc H.size) a) (ffx_X D tys (va_A wc H.size) X Wx) (va_A wc H.size))
    (hP : va_P D vwCl ws H) (hD : va_D A ws) (hS : va_S A H0 H locs) (hA : ∀ q : Nat, H0.size ≤ q → A q) (isC isR : List Nat) (hC : isC.map (fun i => ws[i]?) = wc.map some) (hR : isR.map (fun i => ws[i]?) = wr.map some) (hn : va_nd isR = true) (hdis : ∀ i ∈ isR, i ∉ isC)
    (kx : ∀ (E : String) (ce : Cell) (q : Addr) (u : SX) (H1 : Heap) (locs1 : List Loc), X E u → va_P D vwCl (wr ++ Wx u) H1 → va_D A (wr ++ Wx u) → va_S A H0 H1 locs1 → H1[q]? = some ce → ce.vm = .none → s.vm.findClass E = some ce.cls → vx_W p l e R s m args below meth c H1 locs1 (cells + mc) (slots + ms) Q (F0 m pc ls rest) q)
    (kk : ∀ (u : S) (H1 : Heap) (locs1 : List Loc), post u → va_P D vwCl (wr ++ Wf u) H1 → va_D A (wr ++ Wf u) → va_S A H0 H1 locs1 → W p l e R s m args below meth c H1 locs1 (cells + mc) (slots + ms) Q (F0 m (pc + 3) ls rest)) : W p l e R s m args below meth c H locs cells slots Q (F0 m pc ls st0) := by
  have hF := va_free hD hS hA isC hC
  refine vx_callv hrun hS (fun q _ h => hF q h) hF (fun q _ h => hF q h) (fun E ce q u t H1 locs1 ht hvm _ hB hz hk hS1 h1 h2 h3 => ?_) (fun u t H1 locs1 ht hvm hp hB hz hk hS1 => ?_)
  · obtain ⟨hX, hP1, hK1, hD1⟩ := hB
    rw [ht] at hP1
    obtain ⟨g1, g2⟩ := va_join hP hD isC isR hC hR hn hdis hk hF hP1 hD1
    exact kx E ce q u H1 locs1 hX g1 g2 hS1 h1 h2 h3
  · obtain ⟨hP1, hK1, hD1⟩ := hB
    rw [ht] at hP1
    obtain ⟨h1, h2⟩ := va_join hP hD isC isR hC hR hn hdis hk hF hP1 hD1
    exact kk u H1 locs1 hp h1 h2 hS1
end FFXC
theorem ff_tab {x : Int32} (n : Nat) (h : ∀ k, k < n + 1 → ¬ x = nI k) (hn : n < 2 ^ 30) : x.toInt < 0 ∨ (n : Int) < x.toInt := by
  by_cases h0 : x.toInt < 0
  · exact Or.inl h0
  · by_cases h1 : (n : Int) < x.toInt
    · exact Or.inr h1
    · exfalso
      refine h x.toInt.toNat (by omega) ?_
      apply Int32.toInt_inj.mp
      rw [nI_toInt (by omega)]; omega
theorem ff_newI {p : Program} {l : Launch} {e : Env} {R : Room} {s : State} {m : MethodId} {args : Array Value} {below : List Frame} {meth : Method} {c : Code} {H : Heap} {locs : List Loc} {cells slots : Nat} {Q : State → Prop} {pc : Nat} {ls : Array Slot} {rest : List Value} {cc : ByteArray} {D : va_G} {tys : List (ClassId × FieldType)} {cI : ClassId} {ws : va_W} {A : Nat → Prop} {H0 : Heap} {n : Int32} {N : Nat} (hexec : p.tables.exec = Jvm.exec) (hb : c.code = cc) (harr : (Cond.arrayClass .int).before args s = true) (hK : va_K D vwCl tys s) (h0 : tys[0]? = some (cI, .int)) (hP : va_P D vwCl ws H) (hD : va_D A ws) (hS : va_S A H0 H locs) (hA : ∀ q : Nat, H0.size ≤ q → A q)
    (hn : ¬ n < 0) (hN : n.toNatClampNeg = N) (hbytes : N * 4 ≤ 536870912) (hcells : cells + 1 ≤ R.cells) (hslots : slots + N ≤ R.slots) (hdg : decode cc pc = .ok (.newarray .int, 2))
    (kk : ∀ (q : Nat) (H1 : Heap), va_P D vwCl (ws ++ [(q, .inl (cI, N, .inl (fun _ => 0)))]) H1 → va_D A (ws ++ [(q, .inl (cI, N, .inl (fun _ => 0)))]) → va_S A H0 H1 locs → W p l e R s m args below meth c H1 locs (cells + 1) (slots + N) Q (F0 m (pc + 2) ls (.ref q :: rest))) : W p l e R s m args below meth c H locs cells slots Q (F0 m pc ls (.int n :: rest)) := by
  refine va_newa (atype := .int) (a0 := (N, .inl (fun _ => 0))) hexec hb harr rfl hK hP hD hS hA (fun cA => rfl) hn hN hbytes hcells hslots hdg (fun q cA H1 hK1 hP1 hD1 hS1 => ?_)
  have e1 := va_nm_int (hK.2 0 _ h0).2
  have e2 := va_nm_int (hK1.2 tys.length (cA, .int) (by rw [List.getElem?_append_right (Nat.le_refl _), Nat.sub_self]; rfl)).2
  have e : cA = cI := Option.some.inj (Eq.trans (Eq.symm e2) e1)
  subst e
  exact kk q H1 hP1 hD1 hS1
