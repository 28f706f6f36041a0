/-! the frame of every contract here: worlds over vwCl, links between nest mates, setups of a body, calls -/
def ff_nestM : List (String × Nat × MethodName) := [(RX2, 25, yX0_numberIn), (RX2, 31, yX0_fieldOf), (RX2, 34, yX0_roomOf), (RX2, 37, yX0_isShape), (RX2, 45, yX0_has), (RX3, 15, yX0_cellCount), (RX3, 21, yX0_numberIn), (RX3, 25, yX0_leavesEnough), (RX3, 29, yX0_canTake), (RX3, 33, yX0_write), (RX3, 41, yX1_nextBelow), (RX4, 9, yX0_init), (RX4, 31, yX2_init), (RX4, 38, yX3_init), (RX4, 54, yX0_layOut), (RX4, 60, yX0_cellCount), (RX4, 71, yX0_numberIn), (RX4, 75, yX0_write), (RX4, 78, yX0_isSound), (RX4, 91, yX1_init), (RX4, 93, yX0_empty), (RX4, 96, yX3_solveByDraws), (RX4, 100, yX1_nextBelow), (RX4, 106, yX0_emptyCells), (RX4, 114, yX0_canTake), (RX4, 123, yX0_fieldOf), (RX4, 139, yX0_roomOf), (RX4, 142, yX0_hiddenCells), (RX4, 145, yX0_has), (RX4, 148, yX2_list), (RX4, 155, yX2_countOfThoseWith), (RX4, 160, yX3_countSolutions), (RX4, 171, yX0_copyFrom), (RX4, 185, yX0_hasEmptyNeighbour)]
def ff_nestF : List (String × Nat × String × String × String) := [(RX4, 152, RX2, "count", "I"), (RX4, 182, RX2, "cellsOfAll", "I")]
def ff_nst (U : State) : Prop := (∀ q ∈ ff_nestM, va_Nw (.methodLinkNest q.1 q.2.1 q.2.2 RX4) U) ∧ (∀ q ∈ ff_nestF, va_Nw (.fieldLinkNest q.1 q.2.1 q.2.2.1 q.2.2.2.1 q.2.2.2.2 RX4) U)
theorem ff_nst_warm {s U : State} (hW : s.WarmedH U.vm) (h : ff_nst s) : ff_nst U := ⟨fun q hq => va_Nw.warmM hW (h.1 q hq), fun q hq => va_Nw.warmF hW (h.2 q hq)⟩
theorem ff_nst_same {u U : State} (h : u.vm = U.vm) (hn : ff_nst u) : ff_nst U := ⟨fun q hq => va_Nw.same rfl h (hn.1 q hq), fun q hq => va_Nw.same rfl h (hn.2 q hq)⟩
theorem ff_nm {U : State} (h : ff_nst U) (k : Nat) {own : String} {i : Nat} {y : MethodName} (hk : ff_nestM[k]? = some (own, i, y)) : va_Nw (.methodLinkNest own i y RX4) U := h.1 (own, i, y) (List.mem_of_getElem? hk)
theorem ff_nf {U : State} (h : ff_nst U) (k : Nat) {own : String} {i : Nat} {a b d : String} (hk : ff_nestF[k]? = some (own, i, a, b, d)) : va_Nw (.fieldLinkNest own i a b d RX4) U := h.2 (own, i, a, b, d) (List.mem_of_getElem? hk)
/-- a method's start -/
def ff_Pc (D : va_G) (tys : List (ClassId × FieldType)) (av : List Value) (ws : va_W) (sz : Nat) : Array Value → State → Prop := va_Pc av (fun U => U.heap.size = sz ∧ va_P D vwCl ws U.heap ∧ va_K D vwCl tys U ∧ va_D (fun _ => True) ws ∧ ff_nst U)
/-- the world behind a method -/
def ff_B (D : va_G) (tys : List (ClassId × FieldType)) (A : Nat → Prop) (ws : va_W) (t : State) : Prop := va_P D vwCl ws t.heap ∧ va_K D vwCl tys t ∧ va_D A ws
theorem ff_blind {D : va_G} {tys : List (ClassId × FieldType)} {av : List Value} {ws : va_W} {sz : Nat} : FrameBlind (ff_Pc D tys av ws sz) := fun a U g mk q => by
  obtain ⟨q0, q1, qP, qK, qD, qN⟩ := q
  exact ⟨q0, q1, qP, va_K.moved (u := U) (U := U.calling g mk a) (Vm.Alike.refl U.vm) qK, qD, ff_nst_same rfl qN⟩
theorem ff_preS {s : State} {H : Heap} {D : va_G} {tys : List (ClassId × FieldType)} {As : List Value} {wc : va_W} {A0 : Nat → Prop} (hP : va_P D vwCl wc H) (hK : va_K D vwCl tys s) (hD : va_D A0 wc) (hN : ff_nst s) : PreS s H (ff_Pc D tys As wc H.size) As :=
  ⟨ff_blind, fun U hU hW => ⟨rfl, by rw [hU], by rw [hU]; exact hP, va_K.moved hW.alike hK, hD.weaken (fun _ _ _ _ => trivial), ff_nst_warm hW hN⟩⟩
theorem ff_preV {s : State} {H : Heap} {D : va_G} {tys : List (ClassId × FieldType)} {b : Nat} {As : List Value} {wc : va_W} {A0 : Nat → Prop} {q : vw_C} {ci q0 : Nat} {fs : List Value} (hP : va_P D vwCl wc H) (hK : va_K D vwCl tys s) (hD : va_D A0 wc) (hN : ff_nst s) (hc : vwCl[ci]? = some q) (he : wc[q0]? = some (b, .inr (ci, fs))) : PreV s H q.1 b (ff_Pc D tys (.ref b :: As) wc H.size) As :=
  ⟨ff_blind, va_recv hK hP hc he, fun U hU hW => ⟨rfl, by rw [hU], by rw [hU]; exact hP, va_K.moved hW.alike hK, hD.weaken (fun _ _ _ _ => trivial), ff_nst_warm hW hN⟩⟩
theorem ff_ofW {l : Launch} {y : MethodName} {ws ws' : List Cond} {rm : Room} {Pc : Array Value → State → Prop} {Qc : Array Value → State → Outcome → State → Prop} {mc ms : Nat} {free : Addr → Prop} {cc : ByteArray} {maxL : Nat} {ret : Option FieldType}
    (hy : plainFor y = true) (hw : ws = Cond.code y cc maxL ret :: ws')
    (body : ∀ p e s m args below meth c s₁, BodyLoose p l y (headSpec ws rm) cc maxL ret e s m args below meth c s₁ → c.maxLocals = maxL → Pc args s →
      W p l e (headSpec ws rm).room s m args below meth c s.heap [] 0 0 (MQ below Qc args s mc ms free) (entryFrame m args maxL)) : Met l y ws rm Pc Qc mc ms free := by
  refine MetFree.of_bodySF (code := cc) (maxLocals := maxL) (ret := ret) hy ?_ ?_
  · intro args s m h hn
    obtain ⟨meth, c, h1, h2, h3, h4, h5, h6, -, -⟩ := Cond.code_spec hn (atoms_spec (ws := ws) h _ (by rw [hw]; exact List.mem_cons_self))
    exact ⟨meth, c, h1, h2, h3, h4, h5, h6⟩
  · intro p e s m args below meth c s₁ B hml hP _
    have hh0 : s₁.heap = s.heap := by rw [B.state]; rfl
    obtain ⟨t, a1, o, b1, b2, b3⟩ := body p e s m args below meth c s₁ B hml hP s₁ hh0 (Stand.of_body B)
    exact ⟨t, o, a1, b1, b2, ⟨b3.1, b3.2⟩⟩
section FFM
variable {S : Type} {l : Launch} {y : MethodName} {ws ws' : List Cond} {rm : Room} {cc : ByteArray} {maxL : Nat} {D : va_G} {tys : List (ClassId × FieldType)} {av : List Value} {wsW : va_W} {sz : Nat} {Wf : S → va_W} {mc ms : Nat}
theorem ff_metI {P : Int32 → S → Prop} (hy : plainFor y = true) (hw : ws = Cond.code y cc maxL (some .int) :: ws') (hla : (lg_sl av).length ≤ maxL)
    (body : ∀ (p : Program) (e : Env) (s : State) (m : MethodId) (args : Array Value) (below : List Frame) (meth : Method) (c : Code) (A : Nat → Prop) (Q : State → Prop) (ls : Array Slot) (Hs : Heap),
      p.tables.exec = Jvm.exec → c.code = cc → c.maxLocals = maxL → s.vm.findClass y.cls = some m.cls → (∀ w ∈ ws, w.before args s = true) → ff_nst s → (∀ q : Nat, s.heap.size ≤ q → A q) → va_K D vwCl tys s → va_P D vwCl wsW Hs → va_D A wsW → va_S A s.heap Hs [] →
      (∀ (v : Int32) (u : S) (H : Heap) (locs : List Loc) (cells slots pc : Nat) (ls : Array Slot), P v u → va_P D vwCl (Wf u) H → va_D A (Wf u) → va_S A s.heap H locs → cells ≤ mc → slots ≤ ms → decode cc pc = .ok (.ireturn, 1) → W p l e rm s m args below meth c H locs cells slots Q (F0 m pc ls [.int v])) →
      lv_has ls maxL (lv_args 0 av) → W p l e rm s m args below meth c Hs [] 0 0 Q (F0 m 0 ls [])) :
    Met l y ws rm (ff_Pc D tys av wsW sz) (va_Qi P (fun u t => ff_B D tys (va_A wsW sz) (Wf u) t) (va_A wsW sz)) mc ms (va_A wsW sz) := by
  refine ff_ofW (cc := cc) (maxL := maxL) (ret := some .int) hy hw ?_
  intro p e s m args below meth c s₁ B hml hv
  obtain ⟨rfl, hsz, hP, hK, hD0, hN⟩ := hv
  have hx := B.exec
  have hb := B.bytes
  have hr := B.returns
  have hts := atoms_spec (ws := ws) B.pre
  have hown : s.vm.findClass y.cls = some m.cls := findClass_of_methodNamed B.named
  have hlocks := B.notSynchronized
  subst hsz
  have hD := hD0.self (sz := s.heap.size)
  have hl := lv_entry av (n := maxL) hla
  rw [lg_entry_eq]
  exact body p e s m _ below meth c (va_A wsW s.heap.size) _ _ _ hx hb hml hown hts hN (fun q h => Or.inr h) hK hP hD va_S.rf (fun v u H locs cells slots pc ls hp hP hD hS hc hs hdg => W.widen hc hs (W.iret hx hb hr (fun t ht hW => ⟨⟨v, u, rfl, hp, by rw [ht]; exact hP, va_K.moved hW.alike hK, hD⟩, hS.F ht⟩) hS.2.2 hdg)) hl
theorem ff_metZ {P : Int32 → S → Prop} (hy : plainFor y = true) (hw : ws = Cond.code y cc maxL (some .boolean) :: ws') (hla : (lg_sl av).length ≤ maxL)
    (body : ∀ (p : Program) (e : Env) (s : State) (m : MethodId) (args : Array Value) (below : List Frame) (meth : Method) (c : Code) (A : Nat → Prop) (Q : State → Prop) (ls : Array Slot) (Hs : Heap),
      p.tables.exec = Jvm.exec → c.code = cc → c.maxLocals = maxL → s.vm.findClass y.cls = some m.cls → (∀ w ∈ ws, w.before args s = true) → ff_nst s → (∀ q : Nat, s.heap.size ≤ q → A q) → va_K D vwCl tys s → va_P D vwCl wsW Hs → va_D A wsW → va_S A s.heap Hs [] →
      (∀ (v : Int32) (u : S) (H : Heap) (locs : List Loc) (cells slots pc : Nat) (ls : Array Slot), narrow .boolean (.int v) = .int v → P v u → va_P D vwCl (Wf u) H → va_D A (Wf u) → va_S A s.heap H locs → cells ≤ mc → slots ≤ ms → decode cc pc = .ok (.ireturn, 1) → W p l e rm s m args below meth c H locs cells slots Q (F0 m pc ls [.int v])) →
      lv_has ls maxL (lv_args 0 av) → W p l e rm s m args below meth c Hs [] 0 0 Q (F0 m 0 ls [])) :
    Met l y ws rm (ff_Pc D tys av wsW sz) (va_Qi P (fun u t => ff_B D tys (va_A wsW sz) (Wf u) t) (va_A wsW sz)) mc ms (va_A wsW sz) := by
  refine ff_ofW (cc := cc) (maxL := maxL) (ret := some .boolean) hy hw ?_
  intro p e s m args below meth c s₁ B hml hv
  obtain ⟨rfl, hsz, hP, hK, hD0, hN⟩ := hv
  have hx := B.exec
  have hb := B.bytes
  have hr := B.returns
  have hts := atoms_spec (ws := ws) B.pre
  have hown : s.vm.findClass y.cls = some m.cls := findClass_of_methodNamed B.named
  have hlocks := B.notSynchronized
  subst hsz
  have hD := hD0.self (sz := s.heap.size)
  have hl := lv_entry av (n := maxL) hla
  rw [lg_entry_eq]
  exact body p e s m _ below meth c (va_A wsW s.heap.size) _ _ _ hx hb hml hown hts hN (fun q h => Or.inr h) hK hP hD va_S.rf (fun v u H locs cells slots pc ls hn hp hP hD hS hc hs hdg => W.widen hc hs (W.zret hx hb hr hn (fun t ht hW => ⟨⟨v, u, rfl, hp, by rw [ht]; exact hP, va_K.moved hW.alike hK, hD⟩, hS.F ht⟩) hS.2.2 hdg)) hl
theorem ff_metV {P : S → Prop} (hy : plainFor y = true) (hw : ws = Cond.code y cc maxL none :: ws') (hla : (lg_sl av).length ≤ maxL)
    (body : ∀ (p : Program) (e : Env) (s : State) (m : MethodId) (args : Array Value) (below : List Frame) (meth : Method) (c : Code) (A : Nat → Prop) (Q : State → Prop) (ls : Array Slot) (Hs : Heap),
      p.tables.exec = Jvm.exec → c.code = cc → c.maxLocals = maxL → s.vm.findClass y.cls = some m.cls → meth.name = y.name → (∀ w ∈ ws, w.before args s = true) → ff_nst s → (∀ q : Nat, s.heap.size ≤ q → A q) → va_K D vwCl tys s → va_P D vwCl wsW Hs → va_D A wsW → va_S A s.heap Hs [] →
      (∀ (u : S) (H : Heap) (locs : List Loc) (cells slots pc : Nat) (ls : Array Slot), P u → va_P D vwCl (Wf u) H → va_D A (Wf u) → va_S A s.heap H locs → cells ≤ mc → slots ≤ ms → decode cc pc = .ok (.return_, 1) → W p l e rm s m args below meth c H locs cells slots Q (F0 m pc ls [])) →
      lv_has ls maxL (lv_args 0 av) → W p l e rm s m args below meth c Hs [] 0 0 Q (F0 m 0 ls [])) :
    Met l y ws rm (ff_Pc D tys av wsW sz) (va_Qv P (fun u t => ff_B D tys (va_A wsW sz) (Wf u) t) (va_A wsW sz)) mc ms (va_A wsW sz) := by
  refine ff_ofW (cc := cc) (maxL := maxL) (ret := none) hy hw ?_
  intro p e s m args below meth c s₁ B hml hv
  obtain ⟨rfl, hsz, hP, hK, hD0, hN⟩ := hv
  have hx := B.exec
  have hb := B.bytes
  have hr := B.returns
  have hts := atoms_spec (ws := ws) B.pre
  have hown : s.vm.findClass y.cls = some m.cls := findClass_of_methodNamed B.named
  have hlocks := B.notSynchronized
  have hin : meth.name = y.name := (name_of_methodNamed B.named B.method).1
  subst hsz
  have hD := hD0.self (sz := s.heap.size)
  have hl := lv_entry av (n := maxL) hla
  rw [lg_entry_eq]
  exact body p e s m _ below meth c (va_A wsW s.heap.size) _ _ _ hx hb hml hown hin hts hN (fun q h => Or.inr h) hK hP hD va_S.rf (fun u H locs cells slots pc ls hp hP hD hS hc hs hdg => W.widen hc hs (W.vret hx hb hr (fun t ht hW => ⟨⟨u, rfl, hp, by rw [ht]; exact hP, va_K.moved hW.alike hK, hD⟩, hS.F ht⟩) hS.2.2 hdg)) hl
end FFM
section FFC
variable {S : Type} {p : Program} {l : Launch} {e : Env} {R : Room} {s : State} {m : MethodId} {args : Array Value} {below : List Frame} {meth : Method} {c : Code} {H : Heap} {locs : List Loc} {cells slots : Nat} {Q : State → Prop} {pc : Nat} {ls : Array Slot} {rest st0 : List Value} {a : Array Value} {A : Nat → Prop} {H0 : Heap} {mc ms : Nat} {D : va_G} {tys : List (ClassId × FieldType)} {ws wc wr : va_W} {Wf : S → va_W}
theorem ff_callI {post : Int32 → S → Prop} (hrun : va_Run p l e R s m args below meth c H locs cells slots mc ms (F0 m pc ls st0) rest (va_Qi post (fun u t => ff_B D tys (va_A wc H.size) (Wf u) t) (va_A wc H.size) a) (va_A wc H.size))
    (hP : va_P D vwCl ws H) (hD : va_D A ws) (hS : va_S A H0 H locs) (hA : ∀ q : Nat, H0.size ≤ q → A q) (isC isR : List Nat) (hC : isC.map (fun i => ws[i]?) = wc.map some) (hR : isR.map (fun i => ws[i]?) = wr.map some) (hn : va_nd isR = true) (hdis : ∀ i ∈ isR, i ∉ isC)
    (kk : ∀ (r : Int32) (u : S) (H1 : Heap) (locs1 : List Loc), post r u → va_P D vwCl (wr ++ Wf u) H1 → va_D A (wr ++ Wf u) → va_S A H0 H1 locs1 → W p l e R s m args below meth c H1 locs1 (cells + mc) (slots + ms) Q (F0 m (pc + 3) ls (.int r :: rest))) : W p l e R s m args below meth c H locs cells slots Q (F0 m pc ls st0) := by
  have hF := va_free hD hS hA isC hC
  refine va_calli hrun hS (fun q _ h => hF q h) hF (fun r u t H1 locs1 ht hvm hp hB hz hk hS1 => ?_)
  obtain ⟨hP1, hK1, hD1⟩ := hB
  rw [ht] at hP1
  obtain ⟨h1, h2⟩ := va_join hP hD isC isR hC hR hn hdis hk hF hP1 hD1
  exact kk r u H1 locs1 hp h1 h2 hS1
theorem ff_callV {post : S → Prop} (hrun : va_Run p l e R s m args below meth c H locs cells slots mc ms (F0 m pc ls st0) rest (va_Qv post (fun u t => ff_B D tys (va_A wc H.size) (Wf u) t) (va_A wc H.size) a) (va_A wc H.size))
    (hP : va_P D vwCl ws H) (hD : va_D A ws) (hS : va_S A H0 H locs) (hA : ∀ q : Nat, H0.size ≤ q → A q) (isC isR : List Nat) (hC : isC.map (fun i => ws[i]?) = wc.map some) (hR : isR.map (fun i => ws[i]?) = wr.map some) (hn : va_nd isR = true) (hdis : ∀ i ∈ isR, i ∉ isC)
    (kk : ∀ (u : S) (H1 : Heap) (locs1 : List Loc), post u → va_P D vwCl (wr ++ Wf u) H1 → va_D A (wr ++ Wf u) → va_S A H0 H1 locs1 → W p l e R s m args below meth c H1 locs1 (cells + mc) (slots + ms) Q (F0 m (pc + 3) ls rest)) : W p l e R s m args below meth c H locs cells slots Q (F0 m pc ls st0) := by
  have hF := va_free hD hS hA isC hC
  refine va_callv hrun hS (fun q _ h => hF q h) hF (fun u t H1 locs1 ht hvm hp hB hz hk hS1 => ?_)
  obtain ⟨hP1, hK1, hD1⟩ := hB
  rw [ht] at hP1
  obtain ⟨h1, h2⟩ := va_join hP hD isC isR hC hR hn hdis hk hF hP1 hD1
  exact kk u H1 locs1 hp h1 h2 hS1
end FFC
def b2i (b : Bool) : Int32 := if b then 1 else 0
theorem b2i_narrow (b : Bool) : narrow .boolean (.int (b2i b)) = .int (b2i b) := by cases b <;> decide
theorem b2i_t : b2i true = 1 := rfl
theorem b2i_f : b2i false = 0 := rfl
theorem b2i_eq0 {b : Bool} : b2i b = 0 ↔ b = false := by cases b <;> decide
theorem b2i_ne0 {b : Bool} : ¬ b2i b = 0 ↔ b = true := by cases b <;> decide
