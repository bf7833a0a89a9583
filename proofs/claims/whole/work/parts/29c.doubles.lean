/-! methods that answer a double or a float, which may be a NaN drawn -/
def QcD (G : Gr) (w : va_W) (sz : Nat) (Post : UInt64 → va_W → Prop) : Array Value → State → Outcome → State → Prop := va_Qd Post (BW G w sz) (va_A w sz)
def QcF (G : Gr) (w : va_W) (sz : Nat) (Post : UInt32 → va_W → Prop) : Array Value → State → Outcome → State → Prop := va_Qf Post (BW G w sz) (va_A w sz)
def CtD (l : Launch) (G : Gr) (y : MethodName) (ws : List Cond) (rm : Room) (As : List Value) (w : va_W) (mc ms : Nat) (Post : UInt64 → va_W → Prop) : Prop := ∀ sz, MetD lw_cs l y ws rm (va_Pc As (PreW G w sz)) (QcD G w sz Post) mc ms (va_A w sz)
def CtF (l : Launch) (G : Gr) (y : MethodName) (ws : List Cond) (rm : Room) (As : List Value) (w : va_W) (mc ms : Nat) (Post : UInt32 → va_W → Prop) : Prop := ∀ sz, MetD lw_cs l y ws rm (va_Pc As (PreW G w sz)) (QcF G w sz Post) mc ms (va_A w sz)
abbrev PoD (wf : St → va_W) (post : UInt64 → St → Prop) : UInt64 → va_W → Prop := fun z w' => ∃ u', w' = wf u' ∧ post z u'
abbrev PoDp (w : va_W) (post : UInt64 → Prop) : UInt64 → va_W → Prop := fun z w' => w' = w ∧ post z
abbrev PoF (wf : St → va_W) (post : UInt32 → St → Prop) : UInt32 → va_W → Prop := fun z w' => ∃ u', w' = wf u' ∧ post z u'
abbrev PoFp (w : va_W) (post : UInt32 → Prop) : UInt32 → va_W → Prop := fun z w' => w' = w ∧ post z
abbrev EndD (G : Gr) (w0 : va_W) (Post : UInt64 → va_W → Prop) (args : Array Value) (s : State) (mc ms : Nat) (below : List Frame) : State → Prop := MQD lw_cs below (QcD G w0 s.heap.size Post) args s mc ms (va_A w0 s.heap.size)
abbrev EndF (G : Gr) (w0 : va_W) (Post : UInt32 → va_W → Prop) (args : Array Value) (s : State) (mc ms : Nat) (below : List Frame) : State → Prop := MQD lw_cs below (QcF G w0 s.heap.size Post) args s mc ms (va_A w0 s.heap.size)
section
variable {l : Launch} {G : Gr} {y : MethodName} {cc : ByteArray} {nL : Nat} {ret : Option FieldType} {rm : Room} {As : List Value} {w : va_W} {mc ms : Nat}
theorem CtD.of {Post : UInt64 → va_W → Prop} (hy : plainName y.cls = true) (hlen : (lg_sl As).length ≤ nL)
    (body : ∀ (p : Program) (e : Env) (s : State) (m : MethodId) (args : Array Value) (below : List Frame) (meth : Method) (c : Code) (ls : Array Slot), CallFix p m c cc nL (s.setDrawn s.drawn) args lw_all y.cls → meth.sig.returnType = ret → meth.locks = false → KK G (s.setDrawn s.drawn) → Gd G (va_A w s.heap.size) (s.setDrawn s.drawn) s.heap → HW G (va_A w s.heap.size) s.heap w s.heap [] → lv_has ls nL (lv_args 0 As) → W p l e rm (s.setDrawn s.drawn) m args below meth c s.heap [] 0 0 (EndD G w Post args s mc ms below) (F0 m 0 ls [])) : CtD l G y (ws_ y cc nL ret) rm As w mc ms Post := by
  intro sz
  refine MetD.ofW (cc := cc) (maxL := nL) (ret := ret) hy rfl ?_
  intro p e s m args below meth c s₁ B hml hv hd0
  obtain ⟨rfl, rfl, hP, hK, hD0, hG⟩ := hv
  have hts : ∀ w ∈ ws_ y cc nL ret, w.before As.toArray s = true := atoms_spec (ws := ws_ y cc nL ret) B.pre
  rw [lg_entry_eq]
  exact body p e s m _ below meth c _ ⟨B.exec, B.bytes, hml, findClass_of_methodNamed B.named, dr_words (fun w h => hts w (List.mem_cons_of_mem _ h)) _⟩ B.returns B.notSynchronized hK (hG.same (u := s) (U := s.setDrawn s.drawn) rfl) ⟨hP, hD0.self, va_S.rf, fun q h => Or.inr h⟩ (lv_entry As hlen)
theorem CtF.of {Post : UInt32 → va_W → Prop} (hy : plainName y.cls = true) (hlen : (lg_sl As).length ≤ nL)
    (body : ∀ (p : Program) (e : Env) (s : State) (m : MethodId) (args : Array Value) (below : List Frame) (meth : Method) (c : Code) (ls : Array Slot), CallFix p m c cc nL (s.setDrawn s.drawn) args lw_all y.cls → meth.sig.returnType = ret → meth.locks = false → KK G (s.setDrawn s.drawn) → Gd G (va_A w s.heap.size) (s.setDrawn s.drawn) s.heap → HW G (va_A w s.heap.size) s.heap w s.heap [] → lv_has ls nL (lv_args 0 As) → W p l e rm (s.setDrawn s.drawn) m args below meth c s.heap [] 0 0 (EndF G w Post args s mc ms below) (F0 m 0 ls [])) : CtF l G y (ws_ y cc nL ret) rm As w mc ms Post := by
  intro sz
  refine MetD.ofW (cc := cc) (maxL := nL) (ret := ret) hy rfl ?_
  intro p e s m args below meth c s₁ B hml hv hd0
  obtain ⟨rfl, rfl, hP, hK, hD0, hG⟩ := hv
  have hts : ∀ w ∈ ws_ y cc nL ret, w.before As.toArray s = true := atoms_spec (ws := ws_ y cc nL ret) B.pre
  rw [lg_entry_eq]
  exact body p e s m _ below meth c _ ⟨B.exec, B.bytes, hml, findClass_of_methodNamed B.named, dr_words (fun w h => hts w (List.mem_cons_of_mem _ h)) _⟩ B.returns B.notSynchronized hK (hG.same (u := s) (U := s.setDrawn s.drawn) rfl) ⟨hP, hD0.self, va_S.rf, fun q h => Or.inr h⟩ (lv_entry As hlen)
end
section
variable {p : Program} {l : Launch} {e : Env} {R : Room} {s : State} {m : MethodId} {args : Array Value} {below : List Frame} {meth : Method} {c : Code} {H : Heap} {locs : List Loc} {cells slots : Nat} {Q : State → Prop}
variable {cc : ByteArray} {own : String} {nL pc : Nat} {ls : Array Slot} {rest : List Value} {G : Gr} {w w0 : va_W} {d1 d2 : Drawn}
theorem r_dret {mc ms : Nat} {Post : UInt64 → va_W → Prop} (hd1 : s.drawn.sameBut d1 lw_cs) (X : CallFix p m c cc nL (s.setDrawn d2) args lw_all own) (hr : meth.sig.returnType = some .double) (hlocks : meth.locks = false) (K : KK G (s.setDrawn d2)) (h : HW G (va_A w0 s.heap.size) s.heap w H locs) (hc : cells ≤ mc) (hs : slots ≤ ms) (hdg : decode cc pc = .ok (.dreturn, 1)) {z : UInt64} (hp : Post z w) : W p l e R (s.setDrawn d1) m args below meth c H locs cells slots (MQD lw_cs below (QcD G w0 s.heap.size Post) args s mc ms (va_A w0 s.heap.size)) (F0 m pc ls [.double z]) :=
  W.endD hd1 (W.widen hc hs (W.dret X.1 X.2.1 hr (fun t ht hW => ⟨⟨z, w, rfl, hp, by rw [ht]; exact h.1, va_K.moved hW.alike K, h.2.1⟩, h.2.2.1.F ht⟩) h.2.2.1.2.2 hdg hlocks))
theorem r_fret {mc ms : Nat} {Post : UInt32 → va_W → Prop} (hd1 : s.drawn.sameBut d1 lw_cs) (X : CallFix p m c cc nL (s.setDrawn d2) args lw_all own) (hr : meth.sig.returnType = some .float) (hlocks : meth.locks = false) (K : KK G (s.setDrawn d2)) (h : HW G (va_A w0 s.heap.size) s.heap w H locs) (hc : cells ≤ mc) (hs : slots ≤ ms) (hdg : decode cc pc = .ok (.freturn, 1)) {z : UInt32} (hp : Post z w) : W p l e R (s.setDrawn d1) m args below meth c H locs cells slots (MQD lw_cs below (QcF G w0 s.heap.size Post) args s mc ms (va_A w0 s.heap.size)) (F0 m pc ls [.float z]) :=
  W.endD hd1 (W.widen hc hs (W.fret X.1 X.2.1 hr (fun t ht hW => ⟨⟨z, w, rfl, hp, by rw [ht]; exact h.1, va_K.moved hW.alike K, h.2.1⟩, h.2.2.1.F ht⟩) h.2.2.1.2.2 hdg hlocks))
end
