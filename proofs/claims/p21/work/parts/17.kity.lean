/-! methods that catch nothing and throw nothing, but call such as do; methods that read the script -/
section FFN
variable {S : Type} {l : Launch} {y : MethodName} {ws ws' : List Cond} {rm : Room} {cc : ByteArray} {maxL : Nat} {D : va_G} {tys : List (ClassId × FieldType)} {av : List Value} {wsW : va_W} {sz : Nat} {Wf : S → va_W} {mc ms : Nat}
theorem ffn_metI {P : Int32 → S → Prop} (hy : plainFor y = true) (hw : ws = Cond.code y cc maxL (some .int) :: ws') (hla : (lg_sl av).length ≤ maxL)
    (body : ∀ (p : Program) (e : Env) (s : State) (m : MethodId) (args : Array Value) (below : List Frame) (meth : Method) (c : Code) (A : Nat → Prop) (Q : State → Prop) (ls : Array Slot) (Hs : Heap),
      p.tables.exec = Jvm.exec → c.code = cc → c.maxLocals = maxL → s.vm.findClass y.cls = some m.cls → (∀ w ∈ ws, w.before args s = true) → ff_nst s → ffx A s s.heap → (∀ q : Nat, s.heap.size ≤ q → A q) → va_K D vwCl tys s → va_P D vwCl wsW Hs → va_D A wsW → va_S A s.heap Hs [] →
      (∀ (v : Int32) (u : S) (H : Heap) (locs : List Loc) (cells slots pc : Nat) (ls : Array Slot), P v u → va_P D vwCl (Wf u) H → va_D A (Wf u) → va_S A s.heap H locs → cells ≤ mc → slots ≤ ms → decode cc pc = .ok (.ireturn, 1) → W p l e rm s m args below meth c H locs cells slots Q (F0 m pc ls [.int v])) →
      lv_has ls maxL (lv_args 0 av) → W p l e rm s m args below meth c Hs [] 0 0 Q (F0 m 0 ls [])) :
    Met l y ws rm (ffx_Pc D tys av wsW sz) (va_Qi P (fun u t => ff_B D tys (va_A wsW sz) (Wf u) t) (va_A wsW sz)) mc ms (va_A wsW sz) := by
  refine ff_ofW (cc := cc) (maxL := maxL) (ret := some .int) hy hw ?_
  intro p e s m args below meth c s₁ B hml hv
  obtain ⟨rfl, hsz, hP, hK, hD0, hN, hZ⟩ := hv
  have hx := B.exec
  have hb := B.bytes
  have hr := B.returns
  have hts := atoms_spec (ws := ws) B.pre
  have hown : s.vm.findClass y.cls = some m.cls := findClass_of_methodNamed B.named
  have hlocks := B.notSynchronized
  subst hsz
  have hD := hD0.self (sz := s.heap.size)
  have hl := lv_entry av (n := maxL) hla
  rw [lg_entry_eq]
  exact body p e s m _ below meth c (va_A wsW s.heap.size) _ _ _ hx hb hml hown hts hN hZ (fun q h => Or.inr h) hK hP hD va_S.rf (fun v u H locs cells slots pc ls hp hP hD hS hc hs hdg => W.widen hc hs (W.iret hx hb hr (fun t ht hW => ⟨⟨v, u, rfl, hp, by rw [ht]; exact hP, va_K.moved hW.alike hK, hD⟩, hS.F ht⟩) hS.2.2 hdg)) hl
theorem ffn_metZ {P : Int32 → S → Prop} (hy : plainFor y = true) (hw : ws = Cond.code y cc maxL (some .boolean) :: ws') (hla : (lg_sl av).length ≤ maxL)
    (body : ∀ (p : Program) (e : Env) (s : State) (m : MethodId) (args : Array Value) (below : List Frame) (meth : Method) (c : Code) (A : Nat → Prop) (Q : State → Prop) (ls : Array Slot) (Hs : Heap),
      p.tables.exec = Jvm.exec → c.code = cc → c.maxLocals = maxL → s.vm.findClass y.cls = some m.cls → (∀ w ∈ ws, w.before args s = true) → ff_nst s → ffx A s s.heap → (∀ q : Nat, s.heap.size ≤ q → A q) → va_K D vwCl tys s → va_P D vwCl wsW Hs → va_D A wsW → va_S A s.heap Hs [] →
      (∀ (v : Int32) (u : S) (H : Heap) (locs : List Loc) (cells slots pc : Nat) (ls : Array Slot), narrow .boolean (.int v) = .int v → P v u → va_P D vwCl (Wf u) H → va_D A (Wf u) → va_S A s.heap H locs → cells ≤ mc → slots ≤ ms → decode cc pc = .ok (.ireturn, 1) → W p l e rm s m args below meth c H locs cells slots Q (F0 m pc ls [.int v])) →
      lv_has ls maxL (lv_args 0 av) → W p l e rm s m args below meth c Hs [] 0 0 Q (F0 m 0 ls [])) :
    Met l y ws rm (ffx_Pc D tys av wsW sz) (va_Qi P (fun u t => ff_B D tys (va_A wsW sz) (Wf u) t) (va_A wsW sz)) mc ms (va_A wsW sz) := by
  refine ff_ofW (cc := cc) (maxL := maxL) (ret := some .boolean) hy hw ?_
  intro p e s m args below meth c s₁ B hml hv
  obtain ⟨rfl, hsz, hP, hK, hD0, hN, hZ⟩ := hv
  have hx := B.exec
  have hb := B.bytes
  have hr := B.returns
  have hts := atoms_spec (ws := ws) B.pre
  have hown : s.vm.findClass y.cls = some m.cls := findClass_of_methodNamed B.named
  have hlocks := B.notSynchronized
  subst hsz
  have hD := hD0.self (sz := s.heap.size)
  have hl := lv_entry av (n := maxL) hla
  rw [lg_entry_eq]
  exact body p e s m _ below meth c (va_A wsW s.heap.size) _ _ _ hx hb hml hown hts hN hZ (fun q h => Or.inr h) hK hP hD va_S.rf (fun v u H locs cells slots pc ls hn hp hP hD hS hc hs hdg => W.widen hc hs (W.zret hx hb hr hn (fun t ht hW => ⟨⟨v, u, rfl, hp, by rw [ht]; exact hP, va_K.moved hW.alike hK, hD⟩, hS.F ht⟩) hS.2.2 hdg)) hl
theorem ffn_metV {P : S → Prop} (hy : plainFor y = true) (hw : ws = Cond.code y cc maxL none :: ws') (hla : (lg_sl av).length ≤ maxL)
    (body : ∀ (p : Program) (e : Env) (s : State) (m : MethodId) (args : Array Value) (below : List Frame) (meth : Method) (c : Code) (A : Nat → Prop) (Q : State → Prop) (ls : Array Slot) (Hs : Heap),
      p.tables.exec = Jvm.exec → c.code = cc → c.maxLocals = maxL → s.vm.findClass y.cls = some m.cls → meth.name = y.name → (∀ w ∈ ws, w.before args s = true) → ff_nst s → ffx A s s.heap → (∀ q : Nat, s.heap.size ≤ q → A q) → va_K D vwCl tys s → va_P D vwCl wsW Hs → va_D A wsW → va_S A s.heap Hs [] →
      (∀ (u : S) (H : Heap) (locs : List Loc) (cells slots pc : Nat) (ls : Array Slot), P u → va_P D vwCl (Wf u) H → va_D A (Wf u) → va_S A s.heap H locs → cells ≤ mc → slots ≤ ms → decode cc pc = .ok (.return_, 1) → W p l e rm s m args below meth c H locs cells slots Q (F0 m pc ls [])) →
      lv_has ls maxL (lv_args 0 av) → W p l e rm s m args below meth c Hs [] 0 0 Q (F0 m 0 ls [])) :
    Met l y ws rm (ffx_Pc D tys av wsW sz) (va_Qv P (fun u t => ff_B D tys (va_A wsW sz) (Wf u) t) (va_A wsW sz)) mc ms (va_A wsW sz) := by
  refine ff_ofW (cc := cc) (maxL := maxL) (ret := none) hy hw ?_
  intro p e s m args below meth c s₁ B hml hv
  obtain ⟨rfl, hsz, hP, hK, hD0, hN, hZ⟩ := hv
  have hx := B.exec
  have hb := B.bytes
  have hr := B.returns
  have hts := atoms_spec (ws := ws) B.pre
  have hown : s.vm.findClass y.cls = some m.cls := findClass_of_methodNamed B.named
  have hlocks := B.notSynchronized
  have hin : meth.name = y.name := (name_of_methodNamed B.named B.method).1
  subst hsz
  have hD := hD0.self (sz := s.heap.size)
  have hl := lv_entry av (n := maxL) hla
  rw [lg_entry_eq]
  exact body p e s m _ below meth c (va_A wsW s.heap.size) _ _ _ hx hb hml hown hin hts hN hZ (fun q h => Or.inr h) hK hP hD va_S.rf (fun u H locs cells slots pc ls hp hP hD hS hc hs hdg => W.widen hc hs (W.vret hx hb hr (fun t ht hW => ⟨⟨u, rfl, hp, by rw [ht]; exact hP, va_K.moved hW.alike hK, hD⟩, hS.F ht⟩) hS.2.2 hdg)) hl
end FFN
/-- a start that has the law's script beside its world -/
def fs_Pc (D : va_G) (tys : List (ClassId × FieldType)) (av : List Value) (sz b L : Nat) (xs : Nat → Int32) : Array Value → State → Prop := va_Pc av (fun U => U.heap.size = sz ∧ va_K D vwCl tys U ∧ ff_nst U ∧ ffx (va_A [] sz) U U.heap ∧ va_X b L xs U U.heap ∧ b < sz)
theorem fs_blind {D : va_G} {tys : List (ClassId × FieldType)} {av : List Value} {sz b L : Nat} {xs : Nat → Int32} : FrameBlind (fs_Pc D tys av sz b L xs) := fun a U g mk q => by
  obtain ⟨q0, q1, qK, qN, qZ, qX, qb⟩ := q
  exact ⟨q0, q1, va_K.moved (u := U) (U := U.calling g mk a) (Vm.Alike.refl U.vm) qK, ff_nst_same rfl qN, ffx_same (u := U) (U := U.calling g mk a) rfl qZ, va_X.moved (u := U) (U := U.calling g mk a) (Vm.Alike.refl U.vm) qX, qb⟩
theorem fs_preS {s : State} {H : Heap} {D : va_G} {tys : List (ClassId × FieldType)} {As : List Value} {A : Nat → Prop} {locs : List Loc} {b L : Nat} {xs : Nat → Int32} (hK : va_K D vwCl tys s) (hN : ff_nst s) (hX : va_X b L xs s s.heap) (hbl : b < s.heap.size) (hbA : ¬ A b) (hA : ∀ q : Nat, s.heap.size ≤ q → A q) (hS : va_S A s.heap H locs) (hZ : ffx A s s.heap) : PreS s H (fs_Pc D tys As H.size b L xs) As :=
  ⟨fs_blind, fun U hU hW => ⟨rfl, by rw [hU], va_K.moved hW.alike hK, ff_nst_warm hW hN, by
      rw [hU]
      exact ffx_warm hW (ffx_kept hZ hS.2.1 (fun q h => by
        rcases h with ⟨k, e, h⟩ | h
        · cases h
        · exact hA q (Nat.le_trans hS.1 h))), by
      rw [hU]
      exact va_X.moved hW.alike (hX.kept (hS.2.1 b hbl hbA)), Nat.lt_of_lt_of_le hbl hS.1⟩⟩
section FFS
variable {l : Launch} {y : MethodName} {ws ws' : List Cond} {rm : Room} {cc : ByteArray} {maxL : Nat} {D : va_G} {tys : List (ClassId × FieldType)} {av : List Value} {sz b L : Nat} {xs : Nat → Int32} {mc ms : Nat}
theorem fs_metI {P : Int32 → Unit → Prop} (hy : plainFor y = true) (hw : ws = Cond.code y cc maxL (some .int) :: ws') (hla : (lg_sl av).length ≤ maxL)
    (body : ∀ (p : Program) (e : Env) (s : State) (m : MethodId) (args : Array Value) (below : List Frame) (meth : Method) (c : Code) (A : Nat → Prop) (Q : State → Prop) (ls : Array Slot) (Hs : Heap),
      p.tables.exec = Jvm.exec → c.code = cc → c.maxLocals = maxL → s.vm.findClass y.cls = some m.cls → (∀ w ∈ ws, w.before args s = true) → ff_nst s → ffx A s s.heap → (∀ q : Nat, s.heap.size ≤ q → A q) → va_K D vwCl tys s → va_P D vwCl [] Hs → va_D A [] → va_S A s.heap Hs [] → va_X b L xs s s.heap → b < s.heap.size → ¬ A b →
      (∀ (v : Int32) (u : Unit) (H : Heap) (locs : List Loc) (cells slots pc : Nat) (ls : Array Slot), P v u → va_P D vwCl [] H → va_D A [] → va_S A s.heap H locs → cells ≤ mc → slots ≤ ms → decode cc pc = .ok (.ireturn, 1) → W p l e rm s m args below meth c H locs cells slots Q (F0 m pc ls [.int v])) →
      lv_has ls maxL (lv_args 0 av) → W p l e rm s m args below meth c Hs [] 0 0 Q (F0 m 0 ls [])) :
    Met l y ws rm (fs_Pc D tys av sz b L xs) (va_Qi P (fun u t => ff_B D tys (va_A [] sz) [] t) (va_A [] sz)) mc ms (va_A [] sz) := by
  refine ff_ofW (cc := cc) (maxL := maxL) (ret := some .int) hy hw ?_
  intro p e s m args below meth c s₁ B hml hv
  obtain ⟨rfl, hsz, hK, hN, hZ, hX, hbl⟩ := hv
  have hx := B.exec
  have hb := B.bytes
  have hr := B.returns
  have hts := atoms_spec (ws := ws) B.pre
  have hown : s.vm.findClass y.cls = some m.cls := findClass_of_methodNamed B.named
  have hlocks := B.notSynchronized
  subst hsz
  have hl := lv_entry av (n := maxL) hla
  rw [lg_entry_eq]
  exact body p e s m _ below meth c (va_A [] s.heap.size) _ _ _ hx hb hml hown hts hN hZ (fun q h => Or.inr h) hK (fun k q h => by cases h) ⟨(fun i j p q h => by cases h), (fun k q h => by cases h)⟩ va_S.rf hX hbl (fun z => by
    rcases z with ⟨k, e, h⟩ | h
    · cases h
    · omega) (fun v u H locs cells slots pc ls hp hP hD hS hc hs hdg => W.widen hc hs (W.iret hx hb hr (fun t ht hW => ⟨⟨v, u, rfl, hp, by rw [ht]; exact hP, va_K.moved hW.alike hK, hD⟩, hS.F ht⟩) hS.2.2 hdg)) hl
theorem fs_metZ {P : Int32 → Unit → Prop} (hy : plainFor y = true) (hw : ws = Cond.code y cc maxL (some .boolean) :: ws') (hla : (lg_sl av).length ≤ maxL)
    (body : ∀ (p : Program) (e : Env) (s : State) (m : MethodId) (args : Array Value) (below : List Frame) (meth : Method) (c : Code) (A : Nat → Prop) (Q : State → Prop) (ls : Array Slot) (Hs : Heap),
      p.tables.exec = Jvm.exec → c.code = cc → c.maxLocals = maxL → s.vm.findClass y.cls = some m.cls → (∀ w ∈ ws, w.before args s = true) → ff_nst s → ffx A s s.heap → (∀ q : Nat, s.heap.size ≤ q → A q) → va_K D vwCl tys s → va_P D vwCl [] Hs → va_D A [] → va_S A s.heap Hs [] → va_X b L xs s s.heap → b < s.heap.size → ¬ A b →
      (∀ (v : Int32) (u : Unit) (H : Heap) (locs : List Loc) (cells slots pc : Nat) (ls : Array Slot), narrow .boolean (.int v) = .int v → P v u → va_P D vwCl [] H → va_D A [] → va_S A s.heap H locs → cells ≤ mc → slots ≤ ms → decode cc pc = .ok (.ireturn, 1) → W p l e rm s m args below meth c H locs cells slots Q (F0 m pc ls [.int v])) →
      lv_has ls maxL (lv_args 0 av) → W p l e rm s m args below meth c Hs [] 0 0 Q (F0 m 0 ls [])) :
    Met l y ws rm (fs_Pc D tys av sz b L xs) (va_Qi P (fun u t => ff_B D tys (va_A [] sz) [] t) (va_A [] sz)) mc ms (va_A [] sz) := by
  refine ff_ofW (cc := cc) (maxL := maxL) (ret := some .boolean) hy hw ?_
  intro p e s m args below meth c s₁ B hml hv
  obtain ⟨rfl, hsz, hK, hN, hZ, hX, hbl⟩ := hv
  have hx := B.exec
  have hb := B.bytes
  have hr := B.returns
  have hts := atoms_spec (ws := ws) B.pre
  have hown : s.vm.findClass y.cls = some m.cls := findClass_of_methodNamed B.named
  have hlocks := B.notSynchronized
  subst hsz
  have hl := lv_entry av (n := maxL) hla
  rw [lg_entry_eq]
  exact body p e s m _ below meth c (va_A [] s.heap.size) _ _ _ hx hb hml hown hts hN hZ (fun q h => Or.inr h) hK (fun k q h => by cases h) ⟨(fun i j p q h => by cases h), (fun k q h => by cases h)⟩ va_S.rf hX hbl (fun z => by
    rcases z with ⟨k, e, h⟩ | h
    · cases h
    · omega) (fun v u H locs cells slots pc ls hn hp hP hD hS hc hs hdg => W.widen hc hs (W.zret hx hb hr hn (fun t ht hW => ⟨⟨v, u, rfl, hp, by rw [ht]; exact hP, va_K.moved hW.alike hK, hD⟩, hS.F ht⟩) hS.2.2 hdg)) hl
end FFS
section FFK
variable {p : Program} {l : Launch} {e : Env} {R : Room} {s : State} {m : MethodId} {args : Array Value} {below : List Frame} {meth : Method} {c : Code} {H : Heap} {locs : List Loc} {cells slots : Nat} {Q : State → Prop}
variable {cc : ByteArray} {pc : Nat} {ls : Array Slot} {rest : List Value} {D : va_G} {cl : List vw_C} {A : Nat → Prop} {a : Nat} {tys : List (ClassId × FieldType)} {ws : va_W} {H0 : Heap}
theorem ff_ialdK (hexec : p.tables.exec = Jvm.exec) (hb : c.code = cc) (hK : va_K D cl tys s) (hP : va_P D cl ws H) (q0 t0 : Nat) {cA : ClassId} {n : Nat} {f : Nat → Int32} (ha : ws[q0]? = some (a, .inl (cA, n, .inl f))) (ht : tys[t0]? = some (cA, .int)) {i : Int32} (hin : vp_in i n) {k : Nat} (hk : i.toNatClampNeg = k) (hdg : decode cc pc = .ok (.iaload, 1))
    (kk : W p l e R s m args below meth c H locs cells slots Q (F0 m (pc + 1) ls (.int (f k) :: rest))) : W p l e R s m args below meth c H locs cells slots Q (F0 m pc ls (.int i :: .ref a :: rest)) :=
  va_iald hexec hb hK hP q0 t0 ha ht hin hdg (by rw [hk]; exact kk)
theorem ff_iastK (hexec : p.tables.exec = Jvm.exec) (hb : c.code = cc) (hK : va_K D cl tys s) (hP : va_P D cl ws H) (hD : va_D A ws) (hS : va_S A H0 H locs) (q0 t0 : Nat) {cA : ClassId} {n : Nat} {f : Nat → Int32} (ha : ws[q0]? = some (a, .inl (cA, n, .inl f))) (ht : tys[t0]? = some (cA, .int)) {i : Int32} {x : Int32} (hin : vp_in i n) {k : Nat} (hk : i.toNatClampNeg = k) (hdg : decode cc pc = .ok (.iastore, 1))
    (kk : ∀ (H1 : Heap) (locs1 : List Loc), va_P D cl (ws.set q0 (a, .inl (cA, n, .inl (upd f k x)))) H1 → va_D A (ws.set q0 (a, .inl (cA, n, .inl (upd f k x)))) → va_S A H0 H1 locs1 → W p l e R s m args below meth c H1 locs1 cells slots Q (F0 m (pc + 1) ls rest)) : W p l e R s m args below meth c H locs cells slots Q (F0 m pc ls (.int x :: .int i :: .ref a :: rest)) :=
  va_iast hexec hb hK hP hD hS q0 t0 ha ht hin hdg (by rw [hk]; exact kk)
end FFK
