/-! the frame: worlds, contracts, calls -/
/-- the classes whose objects the worlds hold -/
abbrev cls_ : List vw_C := [(RX0, TX0, 5), (RX1, TX1, 5), (RX2, TX2, 4), (RX3, TX3, 4), (RX4, TX4, 2), (RX5, TX5, 3), (RX6, TX6, 2), (RX7, TX7, 7), (RX8, TX8, 2), (RX9, TX9, 8), (RX10, TX10, 30), (RJx4a65c, TJx4a65c, 3), (RJ6, TJ6, 1)]
abbrev tys_ (k : Nat → ClassId) : List (ClassId × FieldType) := [(k 0, .int), (k 1, .char), (k 2, .object "java/lang/Object"), (k 3, .array .int), (k 4, .long)]
/-- the ground: the tables' numbers, the array classes, the cached boxes, the cache's array, the empty list's array -/
abbrev Gr : Type := va_G × (Nat → ClassId) × (Nat → Nat) × Nat × Nat
def KK (G : Gr) (U : State) : Prop := va_K G.1 cls_ (tys_ G.2.1) U
theorem va_AOA.moved {t : FieldType} {u U : State} (hvm : u.vm.Alike U.vm) (h : va_AOA t u) : va_AOA t U := over_moved (a := #[]) (a' := #[]) hvm h
/-- words that are told of a state apart: what can be cast, what a class declares itself -/
def gCast : List (String × String) := [("java/lang/IllegalArgumentException", "java/lang/IllegalArgumentException"), ("java/lang/IllegalStateException", "java/lang/IllegalStateException"), ("java/lang/IndexOutOfBoundsException", "java/lang/IndexOutOfBoundsException"), ("java/lang/Integer", "java/lang/Object")]
def gDecl : List MethodName := [⟨"java/lang/RuntimeException", "<init>", "()V"⟩, ⟨"java/lang/Exception", "<init>", "()V"⟩, ⟨"java/lang/Throwable", "<init>", "()V"⟩, ⟨"java/lang/Object", "getClass", "()Ljava/lang/Class;"⟩]
def gNest : List (String × Nat × MethodName × String) := [(RX9, 9, yX1_init, RX9), (RX1, 11, yX3_init, RX9), (RX3, 11, yX4_init, RX9), (RX0, 11, yX5_init, RX9), (RX3, 27, yX6_init, RX9), (RX1, 20, yX2_init, RX9), (RX9, 18, yX8_init, RX9), (RX9, 25, yX7_init, RX9)]
def GW (U : State) : Prop := (∀ q ∈ gCast, va_Nw (.castable q.1 q.2) U) ∧ (∀ x ∈ gDecl, va_Nw (.declares x) U) ∧ ∀ q ∈ gNest, va_Nw (.methodLinkNest q.1 q.2.1 q.2.2.1 q.2.2.2) U
theorem GW.warm {s U : State} (hW : s.WarmedH U.vm) (h : GW s) : GW U := ⟨fun q hq => va_Nw.warmC hW (h.1 q hq), fun x hx => va_Nw.warmD hW (h.2.1 x hx), fun q hq => va_Nw.warmM hW (h.2.2 q hq)⟩
theorem GW.same {u U : State} (hv : u.vm = U.vm) (h : GW u) : GW U := ⟨fun q hq => va_Nw.same rfl hv (h.1 q hq), fun x hx => va_Nw.same rfl hv (h.2.1 x hx), fun q hq => va_Nw.same rfl hv (h.2.2 q hq)⟩
def Gd (G : Gr) (A : Nat → Prop) (U : State) (H : Heap) : Prop :=
  GW U ∧ (vx_Zq Bundle.tN "UNASSIGNED_STACK" Bundle.steD A U H ∧ vx_Zq Bundle.tN "SUPPRESSED_SENTINEL" Bundle.listD A U H) ∧
  (vb_C G.2.2.1 A U H ∧ va_Z "java/lang/Integer$IntegerCache" "high" "I" (.int 127) A U H ∧ va_Z "java/lang/Integer$IntegerCache" "cache" "[Ljava/lang/Integer;" (.ref G.2.2.2.1) A U H ∧ va_T (.object "java/lang/Integer") G.2.2.2.1 256 (fun j => .ref (G.2.2.1 j)) A U H) ∧
  va_Z "java/util/ArrayList" "DEFAULTCAPACITY_EMPTY_ELEMENTDATA" "[Ljava/lang/Object;" (.ref G.2.2.2.2) A U H ∧ va_T (.object "java/lang/Object") G.2.2.2.2 0 (fun _ => .null) A U H ∧ va_Mi "[Ljava/lang/Object;" (G.2.2.1 256) U ∧ va_AO "java/lang/Object" U ∧ va_AOA .int U
theorem Gd.moved0 {G : Gr} {A : Nat → Prop} {u U : State} {H : Heap} (hvm : u.vm.Alike U.vm) (hG : GW U) (h : Gd G A u H) : Gd G A U H := ⟨hG, ⟨h.2.1.1.moved hvm, h.2.1.2.moved hvm⟩, ⟨h.2.2.1.1.moved hvm, h.2.2.1.2.1.moved hvm, h.2.2.1.2.2.1.moved hvm, h.2.2.1.2.2.2.moved hvm⟩, h.2.2.2.1.moved hvm, h.2.2.2.2.1.moved hvm, h.2.2.2.2.2.1.moved hvm, h.2.2.2.2.2.2.1.moved hvm, h.2.2.2.2.2.2.2.moved hvm⟩
theorem Gd.warm {G : Gr} {A : Nat → Prop} {u U : State} {H : Heap} (hW : u.WarmedH U.vm) (h : Gd G A u H) : Gd G A U H := h.moved0 hW.alike (h.1.warm hW)
theorem Gd.same {G : Gr} {A : Nat → Prop} {u U : State} {H : Heap} (hv : u.vm = U.vm) (h : Gd G A u H) : Gd G A U H := h.moved0 (by rw [hv]; exact Vm.Alike.refl _) (h.1.same hv)
theorem Gd.kept {G : Gr} {A : Nat → Prop} {U : State} {H H1 : Heap} (h : Gd G A U H) (hq : ∀ a : Nat, a < H.size → ¬ A a → H1[a]? = H[a]?) : Gd G A U H1 := ⟨h.1, ⟨h.2.1.1.kept hq, h.2.1.2.kept hq⟩, ⟨h.2.2.1.1.kept hq, h.2.2.1.2.1.kept hq, h.2.2.1.2.2.1.kept hq, h.2.2.1.2.2.2.kept hq⟩, h.2.2.2.1.kept hq, h.2.2.2.2.1.kept hq, h.2.2.2.2.2⟩
theorem Gd.narrow {G : Gr} {A B : Nat → Prop} {U : State} {H : Heap} (h : Gd G A U H) (hAB : ∀ q, B q → A q) : Gd G B U H := ⟨h.1, ⟨h.2.1.1.narrow hAB, h.2.1.2.narrow hAB⟩, ⟨h.2.2.1.1.narrow hAB, h.2.2.1.2.1.narrow hAB, h.2.2.1.2.2.1.narrow hAB, h.2.2.1.2.2.2.narrow hAB⟩, h.2.2.2.1.narrow hAB, h.2.2.2.2.1.narrow hAB, h.2.2.2.2.2⟩
/-- the world w lies in H, its cells are the method's own (A), and what is not A's is as it was -/
def HW (G : Gr) (A : Nat → Prop) (H0 : Heap) (w : va_W) (H : Heap) (locs : List Loc) : Prop := va_P G.1 cls_ w H ∧ va_D A w ∧ va_S A H0 H locs ∧ ∀ q : Nat, H0.size ≤ q → A q
theorem HW.incl {G : Gr} {A : Nat → Prop} {H0 H : Heap} {w : va_W} {locs : List Loc} (h : HW G A H0 w H locs) : ∀ q, va_A w H.size q → A q := fun q hq => by
  rcases hq with ⟨k, e, hk⟩ | hq
  · exact h.2.1.2 k _ hk
  · exact h.2.2.2 q (Nat.le_trans h.2.2.1.1 hq)
def PreW (G : Gr) (w : va_W) (sz : Nat) : State → Prop := fun U => U.heap.size = sz ∧ va_P G.1 cls_ w U.heap ∧ KK G U ∧ va_D (fun _ => True) w ∧ Gd G (va_A w sz) U U.heap
def BW (G : Gr) (w : va_W) (sz : Nat) : va_W → State → Prop := fun w' t => va_P G.1 cls_ w' t.heap ∧ KK G t ∧ va_D (va_A w sz) w'
theorem PreW.blind {G : Gr} {w : va_W} {sz : Nat} {As : List Value} : FrameBlind (va_Pc As (PreW G w sz)) := fun a U g mk q => by
  obtain ⟨q0, q1, qP, qK, qD, qG⟩ := q
  exact ⟨q0, q1, qP, va_K.moved (u := U) (U := U.calling g mk a) (Vm.Alike.refl U.vm) qK, qD, qG.same (u := U) (U := U.calling g mk a) rfl⟩
/-- CONTRACTS: from the world w, with these arguments, the method returns; its answer and the world behind it are as Post says -/
def QcI (G : Gr) (w : va_W) (sz : Nat) (Post : Int → va_W → Prop) : Array Value → State → Outcome → State → Prop := va_Qi (fun (r : Int32) (w' : va_W) => ∃ z : Int, r = Int32.ofInt z ∧ Post z w') (BW G w sz) (va_A w sz)
def QcV (G : Gr) (w : va_W) (sz : Nat) (Post : va_W → Prop) : Array Value → State → Outcome → State → Prop := va_Qv Post (BW G w sz) (va_A w sz)
def Ct (l : Launch) (G : Gr) (y : MethodName) (ws : List Cond) (rm : Room) (As : List Value) (w : va_W) (mc ms : Nat) (Post : Int → va_W → Prop) : Prop := ∀ sz, Met l y ws rm (va_Pc As (PreW G w sz)) (QcI G w sz Post) mc ms (va_A w sz)
def CtV (l : Launch) (G : Gr) (y : MethodName) (ws : List Cond) (rm : Room) (As : List Value) (w : va_W) (mc ms : Nat) (Post : va_W → Prop) : Prop := ∀ sz, Met l y ws rm (va_Pc As (PreW G w sz)) (QcV G w sz Post) mc ms (va_A w sz)
abbrev zI (z : Int) : Value := .int (Int32.ofInt z)
abbrev InR (z : Int) : Prop := -2147483648 ≤ z ∧ z ≤ 2147483647
section
variable {l : Launch} {G : Gr} {y : MethodName} {cc : ByteArray} {nL : Nat} {ret : Option FieldType} {rm : Room} {As : List Value} {w : va_W} {mc ms : Nat}
theorem Ct.of {Post : Int → va_W → Prop} (hy : plainName y.cls = true) (hlen : (lg_sl As).length ≤ nL)
    (body : ∀ (p : Program) (e : Env) (s : State) (m : MethodId) (args : Array Value) (below : List Frame) (meth : Method) (c : Code) (ls : Array Slot), CallFix p m c cc nL s args lw_all y.cls → meth.sig.returnType = ret → meth.locks = false → KK G s → Gd G (va_A w s.heap.size) s s.heap → HW G (va_A w s.heap.size) s.heap w s.heap [] → lv_has ls nL (lv_args 0 As) → W p l e rm s m args below meth c s.heap [] 0 0 (MQ below (QcI G w s.heap.size Post) args s mc ms (va_A w s.heap.size)) (F0 m 0 ls [])) : Ct l G y (ws_ y cc nL ret) rm As w mc ms Post := by
  intro sz
  refine Met.ofW (cc := cc) (maxL := nL) (ret := ret) hy rfl ?_
  intro p e s m args below meth c s₁ B hml hv
  obtain ⟨rfl, rfl, hP, hK, hD0, hG⟩ := hv
  have hts : ∀ w ∈ ws_ y cc nL ret, w.before As.toArray s = true := atoms_spec (ws := ws_ y cc nL ret) B.pre
  rw [lg_entry_eq]
  exact body p e s m _ below meth c _ ⟨B.exec, B.bytes, hml, findClass_of_methodNamed B.named, fun w h => hts w (List.mem_cons_of_mem _ h)⟩ B.returns B.notSynchronized hK hG ⟨hP, hD0.self, va_S.rf, fun q h => Or.inr h⟩ (lv_entry As hlen)
theorem CtV.of {Post : va_W → Prop} (hy : plainName y.cls = true) (hlen : (lg_sl As).length ≤ nL)
    (body : ∀ (p : Program) (e : Env) (s : State) (m : MethodId) (args : Array Value) (below : List Frame) (meth : Method) (c : Code) (ls : Array Slot), CallFix p m c cc nL s args lw_all y.cls → meth.sig.returnType = ret → meth.locks = false → KK G s → Gd G (va_A w s.heap.size) s s.heap → HW G (va_A w s.heap.size) s.heap w s.heap [] → lv_has ls nL (lv_args 0 As) → W p l e rm s m args below meth c s.heap [] 0 0 (MQ below (QcV G w s.heap.size Post) args s mc ms (va_A w s.heap.size)) (F0 m 0 ls [])) : CtV l G y (ws_ y cc nL ret) rm As w mc ms Post := by
  intro sz
  refine Met.ofW (cc := cc) (maxL := nL) (ret := ret) hy rfl ?_
  intro p e s m args below meth c s₁ B hml hv
  obtain ⟨rfl, rfl, hP, hK, hD0, hG⟩ := hv
  have hts : ∀ w ∈ ws_ y cc nL ret, w.before As.toArray s = true := atoms_spec (ws := ws_ y cc nL ret) B.pre
  rw [lg_entry_eq]
  exact body p e s m _ below meth c _ ⟨B.exec, B.bytes, hml, findClass_of_methodNamed B.named, fun w h => hts w (List.mem_cons_of_mem _ h)⟩ B.returns B.notSynchronized hK hG ⟨hP, hD0.self, va_S.rf, fun q h => Or.inr h⟩ (lv_entry As hlen)
end
section
variable {p : Program} {l : Launch} {e : Env} {R : Room} {s : State} {m : MethodId} {args : Array Value} {below : List Frame} {meth : Method} {c : Code} {H : Heap} {locs : List Loc} {cells slots : Nat} {Q : State → Prop}
variable {cc : ByteArray} {own : String} {nL pc : Nat} {ls : Array Slot} {rest : List Value} {G : Gr} {A : Nat → Prop} {w : va_W} {lv lv' : List (Nat × Value)}
theorem HW.pre (K : KK G s) (g : Gd G A s s.heap) (h : HW G A s.heap w H locs) {U : State} (hU : U.heap = H) (hW : s.WarmedH U.vm) : PreW G w H.size U :=
  ⟨by rw [hU], by rw [hU]; exact h.1, va_K.moved hW.alike K, h.2.1.weaken (fun _ _ _ _ => trivial), by rw [hU]; exact ((g.kept h.2.2.1.2.1).narrow h.incl).warm hW⟩
/-- a virtual call that answers an int -/
theorem r_callVi (X : CallFix p m c cc nL s args lw_all own) (K : KK G s) (g : Gd G A s s.heap) (h : HW G A s.heap w H locs) {C : String} {y : MethodName} {bytes : ByteArray} {maxL n idx b : Nat} {ret : Option FieldType} {rm' : Room} {As : List Value} {mc' ms' : Nat} {Post : Int → va_W → Prop}
    (hC : Ct l G y (ws_ y bytes maxL ret) rm' (.ref b :: As) w mc' ms' Post) (lk : LkV own idx C y bytes maxL ret n) (q0 : Nat) {ci N : Nat} {fs : List Value} {T : u_T} (he : w[q0]? = some (b, .inr (ci, fs))) (hc : cls_[ci]? = some (C, T, N)) (hrm : rm'.cells = mc' ∧ rm'.slots = ms') (hR : rm'.frames + 1 ≤ R.frames ∧ 8 + (maxL + 11) + rm'.locals ≤ R.locals) (hn : As.length = n) (hls : ls.size = nL) {st : List Value} (hst : st = As.reverse ++ .ref b :: rest) (hW : (rest.map fun v => v.category).sum ≤ 8) (hdg : decode cc pc = .ok (.invokevirtual idx, 3)) (hb : cells + mc' ≤ R.cells ∧ slots + ms' ≤ R.slots)
    (kk : ∀ (z : Int) (w' : va_W) (H1 : Heap) (locs1 : List Loc), Post z w' → HW G A s.heap w' H1 locs1 → W p l e R s m args below meth c H1 locs1 (cells + mc') (slots + ms') Q (F0 m (pc + 3) ls (zI z :: rest))) : W p l e R s m args below meth c H locs cells slots Q (F0 m pc ls st) := by
  subst hst
  refine va_calli (va_runV (As := As) (rest := rest) X (hC H.size) (cwV n X.2.2.2.2 lk.1 rfl hrm.1 hrm.2 lk.2 hR) ⟨PreW.blind, va_recv K h.1 hc he, fun U hU hW => ⟨rfl, h.pre K g hU hW⟩⟩ rfl hn hls rfl (lv_room hW) hdg hb) h.2.2.1 (fun q _ hq => h.incl q hq) h.incl (fun r u t H1 locs1 ht hvm hw hB hz1 hk1 hS => ?_)
  obtain ⟨z, rfl, hp⟩ := hw
  exact kk z u H1 locs1 hp ⟨by rw [← ht]; exact hB.1, hB.2.2.weaken (fun _ _ _ hq => h.incl _ hq), hS, h.2.2.2⟩
theorem r_callVv (X : CallFix p m c cc nL s args lw_all own) (K : KK G s) (g : Gd G A s s.heap) (h : HW G A s.heap w H locs) {C : String} {y : MethodName} {bytes : ByteArray} {maxL n idx b : Nat} {ret : Option FieldType} {rm' : Room} {As : List Value} {mc' ms' : Nat} {Post : va_W → Prop}
    (hC : CtV l G y (ws_ y bytes maxL ret) rm' (.ref b :: As) w mc' ms' Post) (lk : LkV own idx C y bytes maxL ret n) (q0 : Nat) {ci N : Nat} {fs : List Value} {T : u_T} (he : w[q0]? = some (b, .inr (ci, fs))) (hc : cls_[ci]? = some (C, T, N)) (hrm : rm'.cells = mc' ∧ rm'.slots = ms') (hR : rm'.frames + 1 ≤ R.frames ∧ 8 + (maxL + 11) + rm'.locals ≤ R.locals) (hn : As.length = n) (hls : ls.size = nL) {st : List Value} (hst : st = As.reverse ++ .ref b :: rest) (hW : (rest.map fun v => v.category).sum ≤ 8) (hdg : decode cc pc = .ok (.invokevirtual idx, 3)) (hb : cells + mc' ≤ R.cells ∧ slots + ms' ≤ R.slots)
    (kk : ∀ (w' : va_W) (H1 : Heap) (locs1 : List Loc), Post w' → HW G A s.heap w' H1 locs1 → W p l e R s m args below meth c H1 locs1 (cells + mc') (slots + ms') Q (F0 m (pc + 3) ls rest)) : W p l e R s m args below meth c H locs cells slots Q (F0 m pc ls st) := by
  subst hst
  refine va_callv (va_runV (As := As) (rest := rest) X (hC H.size) (cwV n X.2.2.2.2 lk.1 rfl hrm.1 hrm.2 lk.2 hR) ⟨PreW.blind, va_recv K h.1 hc he, fun U hU hW => ⟨rfl, h.pre K g hU hW⟩⟩ rfl hn hls rfl (lv_room hW) hdg hb) h.2.2.1 (fun q _ hq => h.incl q hq) h.incl (fun u t H1 locs1 ht hvm hw hB hz1 hk1 hS => ?_)
  exact kk u H1 locs1 hw ⟨by rw [← ht]; exact hB.1, hB.2.2.weaken (fun _ _ _ hq => h.incl _ hq), hS, h.2.2.2⟩
theorem r_callSi (X : CallFix p m c cc nL s args lw_all own) (K : KK G s) (g : Gd G A s s.heap) (h : HW G A s.heap w H locs) {y : MethodName} {bytes : ByteArray} {maxL n idx : Nat} {ret : Option FieldType} {rm' : Room} {As : List Value} {mc' ms' : Nat} {Post : Int → va_W → Prop}
    (hC : Ct l G y (ws_ y bytes maxL ret) rm' As w mc' ms' Post) (lk : LkS own idx y bytes maxL ret n) (hrm : rm'.cells = mc' ∧ rm'.slots = ms') (hR : rm'.frames + 1 ≤ R.frames ∧ 8 + (maxL + 11) + rm'.locals ≤ R.locals) (hn : As.length = n) (hls : ls.size = nL) {st : List Value} (hst : st = As.reverse ++ rest) (hW : (rest.map fun v => v.category).sum ≤ 8) (hdg : decode cc pc = .ok (.invokestatic idx, 3)) (hb : cells + mc' ≤ R.cells ∧ slots + ms' ≤ R.slots)
    (kk : ∀ (z : Int) (w' : va_W) (H1 : Heap) (locs1 : List Loc), Post z w' → HW G A s.heap w' H1 locs1 → W p l e R s m args below meth c H1 locs1 (cells + mc') (slots + ms') Q (F0 m (pc + 3) ls (zI z :: rest))) : W p l e R s m args below meth c H locs cells slots Q (F0 m pc ls st) := by
  subst hst
  refine va_calli (va_runS (As := As) (rest := rest) X (hC H.size) (va_cwS n X.2.2.2.2 lk.1 rfl hrm.1 hrm.2 lk.2 hR) ⟨PreW.blind, fun U hU hW => ⟨rfl, h.pre K g hU hW⟩⟩ rfl hn hls rfl (lv_room hW) hdg hb) h.2.2.1 (fun q _ hq => h.incl q hq) h.incl (fun r u t H1 locs1 ht hvm hw hB hz1 hk1 hS => ?_)
  obtain ⟨z, rfl, hp⟩ := hw
  exact kk z u H1 locs1 hp ⟨by rw [← ht]; exact hB.1, hB.2.2.weaken (fun _ _ _ hq => h.incl _ hq), hS, h.2.2.2⟩
theorem r_callSv (X : CallFix p m c cc nL s args lw_all own) (K : KK G s) (g : Gd G A s s.heap) (h : HW G A s.heap w H locs) {y : MethodName} {bytes : ByteArray} {maxL n idx : Nat} {ret : Option FieldType} {rm' : Room} {As : List Value} {mc' ms' : Nat} {Post : va_W → Prop}
    (hC : CtV l G y (ws_ y bytes maxL ret) rm' As w mc' ms' Post) (lk : LkS own idx y bytes maxL ret n) (hrm : rm'.cells = mc' ∧ rm'.slots = ms') (hR : rm'.frames + 1 ≤ R.frames ∧ 8 + (maxL + 11) + rm'.locals ≤ R.locals) (hn : As.length = n) (hls : ls.size = nL) {st : List Value} (hst : st = As.reverse ++ rest) (hW : (rest.map fun v => v.category).sum ≤ 8) (hdg : decode cc pc = .ok (.invokestatic idx, 3)) (hb : cells + mc' ≤ R.cells ∧ slots + ms' ≤ R.slots)
    (kk : ∀ (w' : va_W) (H1 : Heap) (locs1 : List Loc), Post w' → HW G A s.heap w' H1 locs1 → W p l e R s m args below meth c H1 locs1 (cells + mc') (slots + ms') Q (F0 m (pc + 3) ls rest)) : W p l e R s m args below meth c H locs cells slots Q (F0 m pc ls st) := by
  subst hst
  refine va_callv (va_runS (As := As) (rest := rest) X (hC H.size) (va_cwS n X.2.2.2.2 lk.1 rfl hrm.1 hrm.2 lk.2 hR) ⟨PreW.blind, fun U hU hW => ⟨rfl, h.pre K g hU hW⟩⟩ rfl hn hls rfl (lv_room hW) hdg hb) h.2.2.1 (fun q _ hq => h.incl q hq) h.incl (fun u t H1 locs1 ht hvm hw hB hz1 hk1 hS => ?_)
  exact kk u H1 locs1 hw ⟨by rw [← ht]; exact hB.1, hB.2.2.weaken (fun _ _ _ hq => h.incl _ hq), hS, h.2.2.2⟩
/-- the ends -/
theorem r_iret {w0 : va_W} {mc ms : Nat} {Post : Int → va_W → Prop} (X : CallFix p m c cc nL s args lw_all own) (hr : meth.sig.returnType = some .int) (hlocks : meth.locks = false) (K : KK G s) (h : HW G (va_A w0 s.heap.size) s.heap w H locs) (hc : cells ≤ mc) (hs : slots ≤ ms) (hdg : decode cc pc = .ok (.ireturn, 1)) {z : Int} (hp : Post z w) : W p l e R s m args below meth c H locs cells slots (MQ below (QcI G w0 s.heap.size Post) args s mc ms (va_A w0 s.heap.size)) (F0 m pc ls [zI z]) :=
  W.widen hc hs (W.iret X.1 X.2.1 hr (fun t ht hW => ⟨⟨Int32.ofInt z, w, rfl, ⟨z, rfl, hp⟩, by rw [ht]; exact h.1, va_K.moved hW.alike K, h.2.1⟩, h.2.2.1.F ht⟩) h.2.2.1.2.2 hdg hlocks)
theorem r_zret {w0 : va_W} {mc ms : Nat} {Post : Int → va_W → Prop} (X : CallFix p m c cc nL s args lw_all own) (hr : meth.sig.returnType = some .boolean) (hlocks : meth.locks = false) (K : KK G s) (h : HW G (va_A w0 s.heap.size) s.heap w H locs) (hc : cells ≤ mc) (hs : slots ≤ ms) (hdg : decode cc pc = .ok (.ireturn, 1)) {z : Int} (hz : z = 0 ∨ z = 1) (hp : Post z w) : W p l e R s m args below meth c H locs cells slots (MQ below (QcI G w0 s.heap.size Post) args s mc ms (va_A w0 s.heap.size)) (F0 m pc ls [zI z]) :=
  W.widen hc hs (W.zret X.1 X.2.1 hr (by rcases hz with rfl | rfl <;> rfl) (fun t ht hW => ⟨⟨Int32.ofInt z, w, rfl, ⟨z, rfl, hp⟩, by rw [ht]; exact h.1, va_K.moved hW.alike K, h.2.1⟩, h.2.2.1.F ht⟩) h.2.2.1.2.2 hdg hlocks)
theorem r_vret {w0 : va_W} {mc ms : Nat} {Post : va_W → Prop} (X : CallFix p m c cc nL s args lw_all own) (hr : meth.sig.returnType = none) (hlocks : meth.locks = false) (K : KK G s) (h : HW G (va_A w0 s.heap.size) s.heap w H locs) (hc : cells ≤ mc) (hs : slots ≤ ms) (hdg : decode cc pc = .ok (.return_, 1)) (hp : Post w) : W p l e R s m args below meth c H locs cells slots (MQ below (QcV G w0 s.heap.size Post) args s mc ms (va_A w0 s.heap.size)) (F0 m pc ls []) :=
  W.widen hc hs (W.vret X.1 X.2.1 hr (fun t ht hW => ⟨⟨w, rfl, hp, by rw [ht]; exact h.1, va_K.moved hW.alike K, h.2.1⟩, h.2.2.1.F ht⟩) h.2.2.1.2.2 hdg hlocks)
end
