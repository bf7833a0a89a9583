/-! boxes and the list's array in the pool; contracts that answer a reference -/
abbrev boxE (v : Int) : va_E := .inr (12, [zI v])
abbrev arrE (G : Gr) (n : Nat) (f : Nat → Option Nat) : va_E := .inl (G.2.1 2, n, .inr (.inr (.inr (.inr f))))
def isBox (G : Gr) (u : St) (q : Nat) (v : Int) : Prop := (q ∈ sL u ∧ sF u q = boxE v) ∨ ∃ j : Nat, j < 256 ∧ q = G.2.2.1 j ∧ v = (j : Int) - 128
def arrAt (G : Gr) (u : St) (ed n : Nat) (f : Nat → Option Nat) : Prop := sR u 0 = some ed ∧ ed ∈ sL u ∧ sF u ed = arrE G n f
abbrev PoR (wf : St → va_W) (post : Option Nat → St → Prop) : Option Nat → va_W → Prop := fun z w' => ∃ u', w' = wf u' ∧ post z u'
abbrev PoS (w : va_W) (post : Option Nat → Prop) : Option Nat → va_W → Prop := fun z w' => w' = w ∧ post z
def QcQ (G : Gr) (w : va_W) (sz : Nat) (Post : Option Nat → va_W → Prop) : Array Value → State → Outcome → State → Prop := va_Qq Post (BW G w sz) (va_A w sz)
def CtQ (l : Launch) (G : Gr) (y : MethodName) (ws : List Cond) (rm : Room) (As : List Value) (w : va_W) (mc ms : Nat) (Post : Option Nat → va_W → Prop) : Prop := ∀ sz, Met l y ws rm (va_Pc As (PreW G w sz)) (QcQ G w sz Post) mc ms (va_A w sz)
abbrev EndQ (G : Gr) (w0 : va_W) (Post : Option Nat → va_W → Prop) (args : Array Value) (s : State) (mc ms : Nat) (below : List Frame) : State → Prop := MQ below (QcQ G w0 s.heap.size Post) args s mc ms (va_A w0 s.heap.size)
section
variable {l : Launch} {G : Gr} {y : MethodName} {cc : ByteArray} {nL : Nat} {ret : Option FieldType} {rm : Room} {As : List Value} {w : va_W} {mc ms : Nat}
theorem CtQ.of {Post : Option Nat → va_W → Prop} (hy : plainName y.cls = true) (hlen : (lg_sl As).length ≤ nL)
    (body : ∀ (p : Program) (e : Env) (s : State) (m : MethodId) (args : Array Value) (below : List Frame) (meth : Method) (c : Code) (ls : Array Slot), CallFix p m c cc nL s args lw_all y.cls → meth.sig.returnType = ret → meth.locks = false → KK G s → Gd G (va_A w s.heap.size) s s.heap → HW G (va_A w s.heap.size) s.heap w s.heap [] → lv_has ls nL (lv_args 0 As) → W p l e rm s m args below meth c s.heap [] 0 0 (EndQ G w Post args s mc ms below) (F0 m 0 ls [])) : CtQ l G y (ws_ y cc nL ret) rm As w mc ms Post := by
  intro sz
  refine Met.ofW (cc := cc) (maxL := nL) (ret := ret) hy rfl ?_
  intro p e s m args below meth c s₁ B hml hv
  obtain ⟨rfl, rfl, hP, hK, hD0, hG⟩ := hv
  have hts : ∀ w ∈ ws_ y cc nL ret, w.before As.toArray s = true := atoms_spec (ws := ws_ y cc nL ret) B.pre
  rw [lg_entry_eq]
  exact body p e s m _ below meth c _ ⟨B.exec, B.bytes, hml, findClass_of_methodNamed B.named, fun w h => hts w (List.mem_cons_of_mem _ h)⟩ B.returns B.notSynchronized hK hG ⟨hP, hD0.self, va_S.rf, fun q h => Or.inr h⟩ (lv_entry As hlen)
end
section
variable {p : Program} {l : Launch} {e : Env} {R : Room} {s : State} {m : MethodId} {args : Array Value} {below : List Frame} {meth : Method} {c : Code} {H : Heap} {locs : List Loc} {cells slots : Nat} {Q : State → Prop}
variable {cc : ByteArray} {own : String} {nL pc : Nat} {ls : Array Slot} {rest : List Value} {G : Gr} {A : Nat → Prop} {w : va_W} {a : Nat → Nat} {u : St}
theorem r_callVq (X : CallFix p m c cc nL s args lw_all own) (K : KK G s) (g : Gd G A s s.heap) (h : HW G A s.heap w H locs) {C : String} {y : MethodName} {bytes : ByteArray} {maxL n idx b : Nat} {ret : Option FieldType} {rm' : Room} {As : List Value} {mc' ms' : Nat} {Post : Option Nat → va_W → Prop}
    (hC : CtQ l G y (ws_ y bytes maxL ret) rm' (.ref b :: As) w mc' ms' Post) (lk : LkV own idx C y bytes maxL ret n) (q0 : Nat) {ci N : Nat} {fs : List Value} {T : u_T} (he : w[q0]? = some (b, .inr (ci, fs))) (hc : cls_[ci]? = some (C, T, N)) (hrm : rm'.cells = mc' ∧ rm'.slots = ms') (hR : rm'.frames + 1 ≤ R.frames ∧ 8 + (maxL + 11) + rm'.locals ≤ R.locals) (hn : As.length = n) (hls : ls.size = nL) {st : List Value} (hst : st = As.reverse ++ .ref b :: rest) (hW : (rest.map fun v => v.category).sum ≤ 8) (hdg : decode cc pc = .ok (.invokevirtual idx, 3)) (hb : cells + mc' ≤ R.cells ∧ slots + ms' ≤ R.slots)
    (kk : ∀ (z : Option Nat) (w' : va_W) (H1 : Heap) (locs1 : List Loc), Post z w' → HW G A s.heap w' H1 locs1 → W p l e R s m args below meth c H1 locs1 (cells + mc') (slots + ms') Q (F0 m (pc + 3) ls (va_rf z :: rest))) : W p l e R s m args below meth c H locs cells slots Q (F0 m pc ls st) := by
  subst hst
  refine va_callq (va_runV (As := As) (rest := rest) X (hC H.size) (cwV n X.2.2.2.2 lk.1 rfl hrm.1 hrm.2 lk.2 hR) ⟨PreW.blind, va_recv K h.1 hc he, fun U hU hW => ⟨rfl, h.pre K g hU hW⟩⟩ rfl hn hls rfl (lv_room hW) hdg hb) h.2.2.1 (fun q _ hq => h.incl q hq) h.incl (fun r u t H1 locs1 ht hvm hw hB hz1 hk1 hS => ?_)
  exact kk r u H1 locs1 hw ⟨by rw [← ht]; exact hB.1, hB.2.2.weaken (fun _ _ _ hq => h.incl _ hq), hS, h.2.2.2⟩
theorem r_callSq (X : CallFix p m c cc nL s args lw_all own) (K : KK G s) (g : Gd G A s s.heap) (h : HW G A s.heap w H locs) {y : MethodName} {bytes : ByteArray} {maxL n idx : Nat} {ret : Option FieldType} {rm' : Room} {As : List Value} {mc' ms' : Nat} {Post : Option Nat → va_W → Prop}
    (hC : CtQ l G y (ws_ y bytes maxL ret) rm' As w mc' ms' Post) (lk : LkS own idx y bytes maxL ret n) (hrm : rm'.cells = mc' ∧ rm'.slots = ms') (hR : rm'.frames + 1 ≤ R.frames ∧ 8 + (maxL + 11) + rm'.locals ≤ R.locals) (hn : As.length = n) (hls : ls.size = nL) {st : List Value} (hst : st = As.reverse ++ rest) (hW : (rest.map fun v => v.category).sum ≤ 8) (hdg : decode cc pc = .ok (.invokestatic idx, 3)) (hb : cells + mc' ≤ R.cells ∧ slots + ms' ≤ R.slots)
    (kk : ∀ (z : Option Nat) (w' : va_W) (H1 : Heap) (locs1 : List Loc), Post z w' → HW G A s.heap w' H1 locs1 → W p l e R s m args below meth c H1 locs1 (cells + mc') (slots + ms') Q (F0 m (pc + 3) ls (va_rf z :: rest))) : W p l e R s m args below meth c H locs cells slots Q (F0 m pc ls st) := by
  subst hst
  refine va_callq (va_runS (As := As) (rest := rest) X (hC H.size) (va_cwS n X.2.2.2.2 lk.1 rfl hrm.1 hrm.2 lk.2 hR) ⟨PreW.blind, fun U hU hW => ⟨rfl, h.pre K g hU hW⟩⟩ rfl hn hls rfl (lv_room hW) hdg hb) h.2.2.1 (fun q _ hq => h.incl q hq) h.incl (fun r u t H1 locs1 ht hvm hw hB hz1 hk1 hS => ?_)
  exact kk r u H1 locs1 hw ⟨by rw [← ht]; exact hB.1, hB.2.2.weaken (fun _ _ _ hq => h.incl _ hq), hS, h.2.2.2⟩
theorem r_aret {w0 : va_W} {mc ms : Nat} {Post : Option Nat → va_W → Prop} (X : CallFix p m c cc nL s args lw_all own) {rt : FieldType} (hr : meth.sig.returnType = some rt) (hrt : (∃ n, rt = .object n) ∨ ∃ t, rt = .array t) (hlocks : meth.locks = false) (K : KK G s) (h : HW G (va_A w0 s.heap.size) s.heap w H locs) (hc : cells ≤ mc) (hs : slots ≤ ms) (hdg : decode cc pc = .ok (.areturn, 1)) {z : Option Nat} (hp : Post z w) : W p l e R s m args below meth c H locs cells slots (MQ below (QcQ G w0 s.heap.size Post) args s mc ms (va_A w0 s.heap.size)) (F0 m pc ls [va_rf z]) :=
  W.widen hc hs (W.aret X.1 X.2.1 hr hrt (by cases z; exact Or.inl rfl; exact Or.inr ⟨_, rfl⟩) (fun t ht hW => ⟨⟨z, w, rfl, hp, by rw [ht]; exact h.1, va_K.moved hW.alike K, h.2.1⟩, h.2.2.1.F ht⟩) h.2.2.1.2.2 hdg hlocks)
/-- a box is an Integer in the heap -/
theorem isBox.recv (K : KK G s) (g : Gd G A s s.heap) (h : HW G A s.heap (WC G a u) H locs) {q : Nat} {v : Int} (hb : isBox G u q v) : ∃ cell : Cell, H[q]? = some cell ∧ cell.vm.isStatics = false ∧ s.vm.findClass "java/lang/Integer" = some cell.cls := by
  rcases hb with ⟨hL, hF⟩ | ⟨j, hj, rfl, rfl⟩
  · obtain ⟨k, hk⟩ := va_pl_get (X := stC G a u) (f := sF u) hL
    rw [hF] at hk
    exact va_recv (q := (RJ6, TJ6, 1)) K h.1 (ci := 12) rfl hk
  · obtain ⟨cell, h1, h2, h3, h4⟩ := g.2.2.1.1.1 j hj
    have hlt : G.2.2.1 j < s.heap.size := (Array.getElem?_eq_some_iff.mp h1).1
    exact ⟨cell, by rw [h.2.2.1.2.1 _ hlt h4]; exact h1, h2, h3⟩
/-- checkcast to Integer of a box -/
theorem z_castI (X : CallFix p m c cc nL s args lw_all own) (K : KK G s) (g : Gd G A s s.heap) (h : HW G A s.heap (WC G a u) H locs) {r : Option Nat} {q idx : Nat} {v : Int} (hr : r = some q) (hb : isBox G u q v) (hl : Cond.classLink own idx "java/lang/Integer" ∈ lw_all) (hdg : decode cc pc = .ok (.checkcast idx, 3)) (kk : W p l e R s m args below meth c H locs cells slots Q (F0 m (pc + 3) ls (va_rf r :: rest))) : W p l e R s m args below meth c H locs cells slots Q (F0 m pc ls (va_rf r :: rest)) := by
  subst hr
  exact va_castS X.1 X.2.1 X.2.2.2.1 (X.2.2.2.2 _ hl) (K.1 12 _ rfl).2 (hb.recv K g h) hdg kk
end
