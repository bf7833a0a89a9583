/-! methods that return or throw -/
def XcE (G : Gr) (w : va_W) (sz : Nat) (E : String) (PX : va_W → Prop) : String → State → State → Prop := vx_X PX (fun (E' : String) (w' : va_W) (t : State) => E' = E ∧ BW G w sz w' t) (va_A w sz)
def CtX (l : Launch) (G : Gr) (y : MethodName) (ws : List Cond) (rm : Room) (As : List Value) (w : va_W) (mc ms : Nat) (Post : Int → va_W → Prop) (E : String) (PX : va_W → Prop) : Prop := ∀ sz, vx_Met l y ws rm (va_Pc As (PreW G w sz)) (QcI G w sz Post) (XcE G w sz E PX) mc ms (va_A w sz)
def CtXV (l : Launch) (G : Gr) (y : MethodName) (ws : List Cond) (rm : Room) (As : List Value) (w : va_W) (mc ms : Nat) (Post : va_W → Prop) (E : String) (PX : va_W → Prop) : Prop := ∀ sz, vx_Met l y ws rm (va_Pc As (PreW G w sz)) (QcV G w sz Post) (XcE G w sz E PX) mc ms (va_A w sz)
abbrev EndX (G : Gr) (w0 : va_W) (Post : Int → va_W → Prop) (E : String) (PX : va_W → Prop) (args : Array Value) (s : State) (mc ms : Nat) (below : List Frame) : State → Prop := vx_MQ below (QcI G w0 s.heap.size Post) (XcE G w0 s.heap.size E PX) args s mc ms (va_A w0 s.heap.size)
abbrev EndXV (G : Gr) (w0 : va_W) (Post : va_W → Prop) (E : String) (PX : va_W → Prop) (args : Array Value) (s : State) (mc ms : Nat) (below : List Frame) : State → Prop := vx_MQ below (QcV G w0 s.heap.size Post) (XcE G w0 s.heap.size E PX) args s mc ms (va_A w0 s.heap.size)
section
variable {l : Launch} {G : Gr} {y : MethodName} {cc : ByteArray} {nL : Nat} {ret : Option FieldType} {rm : Room} {As : List Value} {w : va_W} {mc ms : Nat} {E : String} {PX : va_W → Prop}
theorem CtX.of {Post : Int → va_W → Prop} (hy : plainName y.cls = true) (hlen : (lg_sl As).length ≤ nL)
    (body : ∀ (p : Program) (e : Env) (s : State) (m : MethodId) (args : Array Value) (below : List Frame) (meth : Method) (c : Code) (ls : Array Slot), (∀ x ∈ c.exceptionTable.toList, False) → CallFix p m c cc nL s args lw_all y.cls → meth.sig.returnType = ret → meth.locks = false → KK G s → Gd G (va_A w s.heap.size) s s.heap → HW G (va_A w s.heap.size) s.heap w s.heap [] → lv_has ls nL (lv_args 0 As) → W p l e rm s m args below meth c s.heap [] 0 0 (EndX G w Post E PX args s mc ms below) (F0 m 0 ls [])) : CtX l G y (ws_ y cc nL ret) rm As w mc ms Post E PX := by
  intro sz
  refine vx_ofW (cc := cc) (maxL := nL) (ret := ret) hy rfl ?_
  intro p e s m args below meth c s₁ B hml hne hv
  obtain ⟨rfl, rfl, hP, hK, hD0, hG⟩ := hv
  have hts : ∀ w ∈ ws_ y cc nL ret, w.before As.toArray s = true := atoms_spec (ws := ws_ y cc nL ret) B.pre
  rw [lg_entry_eq]
  exact body p e s m _ below meth c _ hne ⟨B.exec, B.bytes, hml, findClass_of_methodNamed B.named, fun w h => hts w (List.mem_cons_of_mem _ h)⟩ B.returns B.notSynchronized hK hG ⟨hP, hD0.self, va_S.rf, fun q h => Or.inr h⟩ (lv_entry As hlen)
theorem CtXV.of {Post : va_W → Prop} (hy : plainName y.cls = true) (hlen : (lg_sl As).length ≤ nL)
    (body : ∀ (p : Program) (e : Env) (s : State) (m : MethodId) (args : Array Value) (below : List Frame) (meth : Method) (c : Code) (ls : Array Slot), (∀ x ∈ c.exceptionTable.toList, False) → CallFix p m c cc nL s args lw_all y.cls → meth.sig.returnType = ret → meth.locks = false → KK G s → Gd G (va_A w s.heap.size) s s.heap → HW G (va_A w s.heap.size) s.heap w s.heap [] → lv_has ls nL (lv_args 0 As) → W p l e rm s m args below meth c s.heap [] 0 0 (EndXV G w Post E PX args s mc ms below) (F0 m 0 ls [])) : CtXV l G y (ws_ y cc nL ret) rm As w mc ms Post E PX := by
  intro sz
  refine vx_ofW (cc := cc) (maxL := nL) (ret := ret) hy rfl ?_
  intro p e s m args below meth c s₁ B hml hne hv
  obtain ⟨rfl, rfl, hP, hK, hD0, hG⟩ := hv
  have hts : ∀ w ∈ ws_ y cc nL ret, w.before As.toArray s = true := atoms_spec (ws := ws_ y cc nL ret) B.pre
  rw [lg_entry_eq]
  exact body p e s m _ below meth c _ hne ⟨B.exec, B.bytes, hml, findClass_of_methodNamed B.named, fun w h => hts w (List.mem_cons_of_mem _ h)⟩ B.returns B.notSynchronized hK hG ⟨hP, hD0.self, va_S.rf, fun q h => Or.inr h⟩ (lv_entry As hlen)
end
/-- what a throw of E by its constructor without a text needs of the tables -/
def TwE (own : String) (ik ic : Nat) (E : String) (names : List String) : Prop := (Bundle.fit E = true ∧ ∀ n ∈ names, Bundle.fit n = true) ∧ (Cond.classLink own ik E ∈ lw_all ∧ Cond.initialized E ∈ lw_all) ∧ (∀ w ∈ (vx_at0 own ic E names).filter goodWord, w ∈ lw_all) ∧ (∀ w ∈ (vx_at0 own ic E names).filter (fun w => !goodWord w), w ∈ gCast.map (fun q => Cond.castable q.1 q.2) ++ gDecl.map Cond.declares) ∧ ∀ w ∈ Cond.classLink own ik E :: Cond.initialized E :: vx_at0 own ic E names, vx_ot w = true
theorem lwa_all {L : List Cond} (h : L.all (fun w => decide (w ∈ lw_tbl) && goodWord w) = true) : ∀ w ∈ L, w ∈ lw_all := fun w hw => by
  have h1 := List.all_eq_true.mp h w hw
  simp only [Bool.and_eq_true, decide_eq_true_eq] at h1
  exact List.mem_filter.mpr h1
theorem GW.word {U : State} {args : Array Value} (h : GW U) : ∀ w ∈ gCast.map (fun q => Cond.castable q.1 q.2) ++ gDecl.map Cond.declares, w.before args U = true := fun w hw => by
  rcases List.mem_append.mp hw with hw | hw
  · obtain ⟨q, hq, rfl⟩ := List.mem_map.mp hw
    exact va_Nw.use rfl (h.1 q hq)
  · obtain ⟨q, hq, rfl⟩ := List.mem_map.mp hw
    exact va_Nw.use rfl (h.2.1 q hq)
section
variable {p : Program} {l : Launch} {e : Env} {R : Room} {s : State} {m : MethodId} {args : Array Value} {below : List Frame} {meth : Method} {c : Code} {H : Heap} {locs : List Loc} {cells slots : Nat} {Q : State → Prop}
variable {cc : ByteArray} {own : String} {nL pc : Nat} {ls : Array Slot} {rest : List Value} {G : Gr} {A : Nat → Prop} {w w0 : va_W} {mc ms : Nat} {E : String} {PX : va_W → Prop}
theorem XcE.of (K : KK G s) (h : HW G (va_A w0 s.heap.size) s.heap w H locs) (hp : PX w) {t : State} (ht : t.heap = H) (hal : s.vm.Alike t.vm) : XcE G w0 s.heap.size E PX E s t := ⟨w, hp, ⟨rfl, by rw [ht]; exact h.1, va_K.moved hal K, h.2.1⟩, h.2.2.1.F ht⟩
theorem r_throw {Qc : Array Value → State → Outcome → State → Prop} (X : CallFix p m c cc nL s args lw_all own) (hst : l.stackTraces = false) (hlk : meth.locks = false) (hne : ∀ x ∈ c.exceptionTable.toList, False) (K : KK G s) (g : Gd G (va_A w0 s.heap.size) s s.heap) (h : HW G (va_A w0 s.heap.size) s.heap w H locs) {ik ic : Nat} {names : List String} (tw : TwE own ik ic E names) (hls : ls.size = nL)
    (d0 : decode cc pc = .ok (.new ik, 3)) (d3 : decode cc (pc + 3) = .ok (.dup, 1)) (d4 : decode cc (pc + 4) = .ok (.invokespecial ic, 3)) (d7 : decode cc (pc + 7) = .ok (.athrow, 1))
    (hR : names.length + 3 < R.frames ∧ (rest.map fun v => v.category).sum + (13 * (names.length + 1) + 42) ≤ R.locals) (hb : cells + 1 ≤ R.cells ∧ slots + 6 ≤ R.slots) (hc : cells + 1 ≤ mc) (hs : slots + 6 ≤ ms) (hp : PX w) : W p l e R s m args below meth c H locs cells slots (vx_MQ below Qc (XcE G w0 s.heap.size E PX) args s mc ms (va_A w0 s.heap.size)) (F0 m pc ls rest) := by
  refine vx_throw0 X.1 X.2.1 hst X.2.2.2.1 tw.1.1 tw.1.2 (X.2.2.2.2 _ tw.2.1.1) (X.2.2.2.2 _ tw.2.1.2) (vx_hat (fun w hw => X.2.2.2.2 _ (tw.2.2.1 w hw)) tw.2.2.2.1 g.1.word) tw.2.2.2.2 g.2.1.1 g.2.1.2 h.2.2.1 (by rw [X.2.2.1, hls]) d0 d3 d4 d7 (fun x hx => (hne x hx).elim) hR.1 hR.2 hb.1 hb.2 hlk (fun t hal hsz hold => ?_) h.2.2.1.2.2 hc hs
  have h1 : va_P G.1 cls_ w t.heap := h.1.kept (fun k q hk => hold q.1 ((h.1 k q hk).lt))
  exact ⟨w, hp, ⟨rfl, h1, va_K.moved hal K, h.2.1⟩, Nat.le_trans h.2.2.1.1 hsz, fun q hq hA => by rw [hold q (Nat.lt_of_lt_of_le hq h.2.2.1.1)]; exact h.2.2.1.2.1 q hq hA⟩
theorem r_out {Qc : Array Value → State → Outcome → State → Prop} (hlk : meth.locks = false) (hne : ∀ x ∈ c.exceptionTable.toList, False) (K : KK G s) (h : HW G (va_A w0 s.heap.size) s.heap w H locs) (hc : cells ≤ mc) (hs : slots ≤ ms) (hp : PX w) {ce : Cell} {q9 : Addr} (h1 : H[q9]? = some ce) (h2 : ce.vm = .none) (h3 : s.vm.findClass E = some ce.cls) : vx_W p l e R s m args below meth c H locs cells slots (vx_MQ below Qc (XcE G w0 s.heap.size E PX) args s mc ms (va_A w0 s.heap.size)) (F0 m pc ls rest) q9 :=
  vx_out (fun x hx => (hne x hx).elim) hlk h1 h2 h3 (fun t ht hal => XcE.of K h hp ht hal) h.2.2.1.2.2 hc hs
/-- calls of what may throw: caught here (kx), or what comes -/
theorem r_callVXi (X : CallFix p m c cc nL s args lw_all own) (K : KK G s) (g : Gd G A s s.heap) (h : HW G A s.heap w H locs) {C : String} {y : MethodName} {bytes : ByteArray} {maxL n idx b : Nat} {ret : Option FieldType} {rm' : Room} {As : List Value} {mc' ms' : Nat} {Post : Int → va_W → Prop}
    (hC : CtX l G y (ws_ y bytes maxL ret) rm' (.ref b :: As) w mc' ms' Post E PX) (lk : LkV own idx C y bytes maxL ret n) (q0 : Nat) {ci N : Nat} {fs : List Value} {T : u_T} (he : w[q0]? = some (b, .inr (ci, fs))) (hcl : cls_[ci]? = some (C, T, N)) (hrm : rm'.cells = mc' ∧ rm'.slots = ms') (hR : rm'.frames + 1 ≤ R.frames ∧ 8 + (maxL + 11) + rm'.locals ≤ R.locals) (hn : As.length = n) (hls : ls.size = nL) {st : List Value} (hst : st = As.reverse ++ .ref b :: rest) (hW : (rest.map fun v => v.category).sum ≤ 8) (hdg : decode cc pc = .ok (.invokevirtual idx, 3)) (hb : cells + mc' ≤ R.cells ∧ slots + ms' ≤ R.slots)
    (kx : ∀ (w' : va_W) (H1 : Heap) (locs1 : List Loc) (ce : Cell) (q9 : Addr), PX w' → HW G A s.heap w' H1 locs1 → H1[q9]? = some ce → ce.vm = .none → s.vm.findClass E = some ce.cls → vx_W p l e R s m args below meth c H1 locs1 (cells + mc') (slots + ms') Q (F0 m pc ls rest) q9)
    (kk : ∀ (z : Int) (w' : va_W) (H1 : Heap) (locs1 : List Loc), Post z w' → HW G A s.heap w' H1 locs1 → W p l e R s m args below meth c H1 locs1 (cells + mc') (slots + ms') Q (F0 m (pc + 3) ls (zI z :: rest))) : W p l e R s m args below meth c H locs cells slots Q (F0 m pc ls st) := by
  subst hst
  refine vx_calli (vx_runV (As := As) (rest := rest) X (hC H.size) (cwV n X.2.2.2.2 lk.1 rfl hrm.1 hrm.2 lk.2 hR) ⟨PreW.blind, va_recv K h.1 hcl he, fun U hU hW => ⟨rfl, h.pre K g hU hW⟩⟩ rfl hn hls rfl (lv_room hW) hdg hb) h.2.2.1 (fun q _ hq => h.incl q hq) h.incl (fun q _ hq => h.incl q hq) (fun E' ce q9 u t H1 locs1 ht hvm hw hB hz1 hk1 hS h1 h2 h3 => ?_) (fun r u t H1 locs1 ht hvm hw hB hz1 hk1 hS => ?_)
  · obtain ⟨rfl, hB⟩ := hB
    exact kx u H1 locs1 ce q9 hw ⟨by rw [← ht]; exact hB.1, hB.2.2.weaken (fun _ _ _ hq => h.incl _ hq), hS, h.2.2.2⟩ h1 h2 h3
  · obtain ⟨z, rfl, hp⟩ := hw
    exact kk z u H1 locs1 hp ⟨by rw [← ht]; exact hB.1, hB.2.2.weaken (fun _ _ _ hq => h.incl _ hq), hS, h.2.2.2⟩
theorem r_callSXv (X : CallFix p m c cc nL s args lw_all own) (K : KK G s) (g : Gd G A s s.heap) (h : HW G A s.heap w H locs) {y : MethodName} {bytes : ByteArray} {maxL n idx : Nat} {ret : Option FieldType} {rm' : Room} {As : List Value} {mc' ms' : Nat} {Post : va_W → Prop}
    (hC : CtXV l G y (ws_ y bytes maxL ret) rm' As w mc' ms' Post E PX) (lk : LkS own idx y bytes maxL ret n) (hrm : rm'.cells = mc' ∧ rm'.slots = ms') (hR : rm'.frames + 1 ≤ R.frames ∧ 8 + (maxL + 11) + rm'.locals ≤ R.locals) (hn : As.length = n) (hls : ls.size = nL) {st : List Value} (hst : st = As.reverse ++ rest) (hW : (rest.map fun v => v.category).sum ≤ 8) (hdg : decode cc pc = .ok (.invokestatic idx, 3)) (hb : cells + mc' ≤ R.cells ∧ slots + ms' ≤ R.slots)
    (kx : ∀ (w' : va_W) (H1 : Heap) (locs1 : List Loc) (ce : Cell) (q9 : Addr), PX w' → HW G A s.heap w' H1 locs1 → H1[q9]? = some ce → ce.vm = .none → s.vm.findClass E = some ce.cls → vx_W p l e R s m args below meth c H1 locs1 (cells + mc') (slots + ms') Q (F0 m pc ls rest) q9)
    (kk : ∀ (w' : va_W) (H1 : Heap) (locs1 : List Loc), Post w' → HW G A s.heap w' H1 locs1 → W p l e R s m args below meth c H1 locs1 (cells + mc') (slots + ms') Q (F0 m (pc + 3) ls rest)) : W p l e R s m args below meth c H locs cells slots Q (F0 m pc ls st) := by
  subst hst
  refine vx_callv (vx_runS (As := As) (rest := rest) X (hC H.size) (va_cwS n X.2.2.2.2 lk.1 rfl hrm.1 hrm.2 lk.2 hR) ⟨PreW.blind, fun U hU hW => ⟨rfl, h.pre K g hU hW⟩⟩ rfl hn hls rfl (lv_room hW) hdg hb) h.2.2.1 (fun q _ hq => h.incl q hq) h.incl (fun q _ hq => h.incl q hq) (fun E' ce q9 u t H1 locs1 ht hvm hw hB hz1 hk1 hS h1 h2 h3 => ?_) (fun u t H1 locs1 ht hvm hw hB hz1 hk1 hS => ?_)
  · obtain ⟨rfl, hB⟩ := hB
    exact kx u H1 locs1 ce q9 hw ⟨by rw [← ht]; exact hB.1, hB.2.2.weaken (fun _ _ _ hq => h.incl _ hq), hS, h.2.2.2⟩ h1 h2 h3
  · exact kk u H1 locs1 hw ⟨by rw [← ht]; exact hB.1, hB.2.2.weaken (fun _ _ _ hq => h.incl _ hq), hS, h.2.2.2⟩
end
theorem tw_IAE : TwE RX9 101 103 "java/lang/IllegalArgumentException" ["java/lang/RuntimeException", "java/lang/Exception"] := ⟨⟨by decide +kernel, by decide +kernel⟩, ⟨lwa_all (L := [Cond.classLink RX9 101 "java/lang/IllegalArgumentException"]) (by decide +kernel) _ List.mem_cons_self, lwa_all (L := [Cond.initialized "java/lang/IllegalArgumentException"]) (by decide +kernel) _ List.mem_cons_self⟩, lwa_all (by decide +kernel), by decide +kernel, by decide +kernel⟩
theorem tw_ISE : TwE RX9 88 90 "java/lang/IllegalStateException" ["java/lang/RuntimeException", "java/lang/Exception"] := ⟨⟨by decide +kernel, by decide +kernel⟩, ⟨lwa_all (L := [Cond.classLink RX9 88 "java/lang/IllegalStateException"]) (by decide +kernel) _ List.mem_cons_self, lwa_all (L := [Cond.initialized "java/lang/IllegalStateException"]) (by decide +kernel) _ List.mem_cons_self⟩, lwa_all (by decide +kernel), by decide +kernel, by decide +kernel⟩
theorem tw_IOOBE : TwE RX9 150 152 "java/lang/IndexOutOfBoundsException" ["java/lang/RuntimeException", "java/lang/Exception"] := ⟨⟨by decide +kernel, by decide +kernel⟩, ⟨lwa_all (L := [Cond.classLink RX9 150 "java/lang/IndexOutOfBoundsException"]) (by decide +kernel) _ List.mem_cons_self, lwa_all (L := [Cond.initialized "java/lang/IndexOutOfBoundsException"]) (by decide +kernel) _ List.mem_cons_self⟩, lwa_all (by decide +kernel), by decide +kernel, by decide +kernel⟩
