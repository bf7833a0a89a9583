/-! making objects and boxes: rows for new, for constructors, Integer.valueOf and intValue -/
theorem CtV.ofInit {l : Launch} {G : Gr} {y : MethodName} {cc : ByteArray} {nL : Nat} {rm : Room} {As : List Value} {w : va_W} {mc ms : Nat} {Post : va_W → Prop} (hy : plainName y.cls = true) (hn : y.name = "<init>") (hlen : (lg_sl As).length ≤ nL)
    (body : ∀ (p : Program) (e : Env) (s : State) (m : MethodId) (args : Array Value) (below : List Frame) (meth : Method) (c : Code) (ls : Array Slot), meth.name = "<init>" → CallFix p m c cc nL s args lw_all y.cls → meth.sig.returnType = none → meth.locks = false → KK G s → Gd G (va_A w s.heap.size) s s.heap → HW G (va_A w s.heap.size) s.heap w s.heap [] → lv_has ls nL (lv_args 0 As) → W p l e rm s m args below meth c s.heap [] 0 0 (MQ below (QcV G w s.heap.size Post) args s mc ms (va_A w s.heap.size)) (F0 m 0 ls [])) : CtV l G y (ws_ y cc nL none) rm As w mc ms Post := by
  intro sz
  refine Met.ofW (cc := cc) (maxL := nL) (ret := none) hy rfl ?_
  intro p e s m args below meth c s₁ B hml hv
  obtain ⟨rfl, rfl, hP, hK, hD0, hG⟩ := hv
  have hts : ∀ w ∈ ws_ y cc nL none, w.before As.toArray s = true := atoms_spec (ws := ws_ y cc nL none) B.pre
  rw [lg_entry_eq]
  exact body p e s m _ below meth c _ ((name_of_methodNamed B.named B.method).1.trans hn) ⟨B.exec, B.bytes, hml, findClass_of_methodNamed B.named, fun w h => hts w (List.mem_cons_of_mem _ h)⟩ B.returns B.notSynchronized hK hG ⟨hP, hD0.self, va_S.rf, fun q h => Or.inr h⟩ (lv_entry As hlen)
theorem q_oInst : Cond.instanceMethod Lib.objectInit ∈ lw_all := lwa 95 (by decide +kernel) (by decide +kernel)
theorem q_oCode : Cond.code Lib.objectInit ⟨#[0xb1]⟩ 1 none ∈ lw_all := lwa 96 (by decide +kernel) (by decide +kernel)
/-- what a constructor's call needs: its own link, or a nest mate's -/
def LkI (own : String) (idx : Nat) (y : MethodName) (cc : ByteArray) (maxL n : Nat) : Prop := (GoodIn lw_all (ws_ y cc maxL none) ∧ Cond.initialized y.cls ∈ lw_all ∧ Cond.methodLink own idx y ∈ lw_all ∧ Cond.instanceMethod y ∈ lw_all) ∧ y.name = "<init>" ∧ (y.cls ≠ "java/lang/invoke/MethodHandle" ∧ y.cls ≠ "java/lang/invoke/VarHandle" ∧ (parseMethodDescriptor y.desc).map (fun d => d.parameters.length) = some n)
theorem LkI.of {own : String} {idx : Nat} {y : MethodName} {cc : ByteArray} {maxL n : Nat} (h1 : Cond.methodLink own idx y ∈ lw_all) (h2 : Cond.instanceMethod y ∈ lw_all) (h3 : Cond.initialized y.cls ∈ lw_all) (h4 : Cond.code y cc maxL none ∈ lw_all) (h5 : y.name = "<init>") (h6 : y.cls ≠ "java/lang/invoke/MethodHandle" ∧ y.cls ≠ "java/lang/invoke/VarHandle" ∧ (parseMethodDescriptor y.desc).map (fun d => d.parameters.length) = some n) : LkI own idx y cc maxL n := ⟨⟨lw_ws h4, h3, h1, h2⟩, h5, h6⟩
section
variable {p : Program} {l : Launch} {e : Env} {R : Room} {s : State} {m : MethodId} {args : Array Value} {below : List Frame} {meth : Method} {c : Code} {H : Heap} {locs : List Loc} {cells slots : Nat} {Q : State → Prop}
variable {cc : ByteArray} {own : String} {nL pc : Nat} {ls : Array Slot} {rest : List Value} {G : Gr} {A : Nat → Prop} {w : va_W} {a : Nat → Nat} {u : St}
theorem r_objInit (X : CallFix p m c cc nL s args lw_all own) {b idx : Nat} (hl : Cond.methodLink own idx Lib.objectInit ∈ lw_all) (hls : ls.size = nL) (hR : 1 ≤ R.frames ∧ (rest.map fun v => v.category).sum + 12 ≤ R.locals) (hdg : decode cc pc = .ok (.invokespecial idx, 3)) (kk : W p l e R s m args below meth c H locs cells slots Q (F0 m (pc + 3) ls rest)) : W p l e R s m args below meth c H locs cells slots Q (F0 m pc ls (.ref b :: rest)) :=
  W.objInit X.1 X.2.1 X.2.2.2.1 (X.2.2.2.2 _ hl) (X.2.2.2.2 _ q_oInst) (X.2.2.2.2 _ q_oCode) rfl (by rw [X.2.2.1]; exact hls) rfl hdg hR.1 (by show 2 * 0 + _ + 12 ≤ _; omega) kk
theorem r_callIv (X : CallFix p m c cc nL s args lw_all own) (K : KK G s) (g : Gd G A s s.heap) (h : HW G A s.heap w H locs) {y : MethodName} {bytes : ByteArray} {maxL n idx b : Nat} {rm' : Room} {As : List Value} {mc' ms' : Nat} {Post : va_W → Prop}
    (hC : CtV l G y (ws_ y bytes maxL none) rm' (.ref b :: As) w mc' ms' Post) (lk : LkI own idx y bytes maxL n) (hrm : rm'.cells = mc' ∧ rm'.slots = ms') (hR : rm'.frames + 1 ≤ R.frames ∧ 8 + (maxL + 11) + rm'.locals ≤ R.locals) (hn : As.length = n) (hls : ls.size = nL) {st : List Value} (hst : st = As.reverse ++ .ref b :: rest) (hW : (rest.map fun v => v.category).sum ≤ 8) (hdg : decode cc pc = .ok (.invokespecial idx, 3)) (hb : cells + mc' ≤ R.cells ∧ slots + ms' ≤ R.slots)
    (kk : ∀ (w' : va_W) (H1 : Heap) (locs1 : List Loc), Post w' → HW G A s.heap w' H1 locs1 → W p l e R s m args below meth c H1 locs1 (cells + mc') (slots + ms') Q (F0 m (pc + 3) ls rest)) : W p l e R s m args below meth c H locs cells slots Q (F0 m pc ls st) := by
  subst hst
  refine va_callv (va_runI (As := As) (rest := rest) X (hC H.size) (cwI n X.2.2.2.2 lk.1.1 rfl hrm.1 hrm.2 (X.2.2.2.2 _ lk.1.2.1) (X.2.2.2.2 _ lk.1.2.2.1) (X.2.2.2.2 _ lk.1.2.2.2) lk.2.1 lk.2.2 hR) ⟨PreW.blind, fun U hU hW => ⟨rfl, h.pre K g hU hW⟩⟩ rfl hn hls rfl (lv_room hW) hdg hb) h.2.2.1 (fun q _ hq => h.incl q hq) h.incl (fun u t H1 locs1 ht hvm hw hB hz1 hk1 hS => ?_)
  exact kk u H1 locs1 hw ⟨by rw [← ht]; exact hB.1, hB.2.2.weaken (fun _ _ _ hq => h.incl _ hq), hS, h.2.2.2⟩
/-- 'new': a cell more, behind the world -/
theorem r_new (X : CallFix p m c cc nL s args lw_all own) (K : KK G s) (h : HW G A s.heap w H locs) {C : String} {T : u_T} {N ci idx : Nat} {ty : Nat → FieldType} {fs : List Value} (hin : ∀ x ∈ u_ws C T N, x ∈ lw_all) (hty : ∀ k, k < N → parseFieldDescriptor (T k).2.2.1 = some (ty k)) (hc : cls_[ci]? = some (C, T, N)) (hcl : Cond.classLink own idx C ∈ lw_all) (hinst : Cond.instantiable C N ∈ lw_all) (hini : Cond.initialized C ∈ lw_all) (hfs : ∀ j, j < N → defaultValue (ty j) = vp_V fs j) (hb : cells + 1 ≤ R.cells ∧ slots + N ≤ R.slots) (hdg : decode cc pc = .ok (.new idx, 3))
    (kk : ∀ (q : Nat) (H1 : Heap), HW G A s.heap (w ++ [(q, .inr (ci, fs))]) H1 locs → W p l e R s m args below meth c H1 locs (cells + 1) (slots + N) Q (F0 m (pc + 3) ls (.ref q :: rest))) : W p l e R s m args below meth c H locs cells slots Q (F0 m pc ls rest) :=
  va_new X.1 X.2.1 X.2.2.2.2 hin ty hty X.2.2.2.1 (X.2.2.2.2 _ hcl) (X.2.2.2.2 _ hinst) (X.2.2.2.2 _ hini) K h.1 h.2.1 h.2.2.1 h.2.2.2 hc hfs hb.1 hb.2 hdg (fun q H1 hP hD hS => kk q H1 ⟨hP, hD, hS, h.2.2.2⟩)
theorem HW.fresh {H0 : Heap} {X9 : va_W} {L : List Nat} {f : Nat → va_E} {q : Nat} {x : va_E} (h : HW G A H0 ((X9 ++ va_pl L f) ++ [(q, x)]) H locs) : q ∉ L := fun hq => by
  obtain ⟨k, hk⟩ := va_pl_get (X := X9) (f := f) hq
  have hlt := (List.getElem?_eq_some_iff.mp hk).1
  have h1 : ((X9 ++ va_pl L f) ++ [(q, x)])[k]? = some (q, f q) := by rw [List.getElem?_append_left hlt]; exact hk
  have h2 : ((X9 ++ va_pl L f) ++ [(q, x)])[(X9 ++ va_pl L f).length]? = some (q, x) := by rw [List.getElem?_append_right (Nat.le_refl _), Nat.sub_self]; rfl
  have := h.2.1.1 k _ _ _ h1 h2 rfl
  omega
theorem HW.pushC {H0 : Heap} {q : Nat} {x : va_E} (h : HW G A H0 (WC G a u ++ [(q, x)]) H locs) : q ∉ sL u ∧ HW G A H0 (WC G a (pN u q x)) H locs := by
  have hq : q ∉ sL u := HW.fresh h
  refine ⟨hq, ?_⟩
  have e1 : WC G a u ++ [(q, x)] = WC G a (pN u q x) := by
    show (stC G a u ++ va_pl (sL u) (sF u)) ++ [(q, x)] = stC G a u ++ va_pl (sL u ++ [q]) (va_up (sF u) q x)
    rw [List.append_assoc, va_pl_push hq]
  rw [← e1]
  exact h
end
theorem q_nInit : Cond.methodLink RJxd2413 1 Lib.objectInit ∈ lw_all := lwa 912 (by decide +kernel) (by decide +kernel)
theorem ct_Number_init {l : Launch} {G : Gr} {w : va_W} (q : Nat) : CtV l G yJxd2413_init_da8c8 (ws_ yJxd2413_init_da8c8 cJxd2413_init_da8c8 1 none) { frames := 1, cells := 0, slots := 0, locals := 12 } [.ref q] w 0 0 (fun w' => w' = w) := by
  refine CtV.of (by decide) (Nat.le_of_ble_eq_true rfl) ?_
  intro p e s m args below meth c ls X hr hlk K g h hl
  have hl : lv_has ls 1 [(0, .ref q)] := hl
  refine z_aload_n X hl 0 rfl rfl dJxd2413_init_da8c8_0 ?_
  refine r_objInit X q_nInit (lv_size hl) ⟨Nat.le_of_ble_eq_true rfl, Nat.le_of_ble_eq_true rfl⟩ dJxd2413_init_da8c8_1 ?_
  exact r_vret X hr hlk K h (Nat.le_refl _) (Nat.le_refl _) dJxd2413_init_da8c8_4 rfl
theorem q_909 : Cond.methodLink RJ6 202 yJxd2413_init_da8c8 ∈ lw_all := lwa 909 (by decide +kernel) (by decide +kernel)
theorem q_910 : Cond.instanceMethod yJxd2413_init_da8c8 ∈ lw_all := lwa 910 (by decide +kernel) (by decide +kernel)
theorem q_911 : Cond.code yJxd2413_init_da8c8 cJxd2413_init_da8c8 1 none ∈ lw_all := lwa 911 (by decide +kernel) (by decide +kernel)
theorem q_906 : Cond.methodLink RJ6 199 yJ6_init_d00df ∈ lw_all := lwa 906 (by decide +kernel) (by decide +kernel)
theorem q_907 : Cond.instanceMethod yJ6_init_d00df ∈ lw_all := lwa 907 (by decide +kernel) (by decide +kernel)
theorem q_908 : Cond.code yJ6_init_d00df cJ6_init_d00df 2 none ∈ lw_all := lwa 908 (by decide +kernel) (by decide +kernel)
theorem q_904 : Cond.classLink RJ6 1 "java/lang/Integer" ∈ lw_all := lwa 904 (by decide +kernel) (by decide +kernel)
theorem q_905 : Cond.instantiable RJ6 1 ∈ lw_all := lwa 905 (by decide +kernel) (by decide +kernel)
theorem q_nIni : Cond.initialized yJxd2413_init_da8c8.cls ∈ lw_all := lwa_all (L := [Cond.initialized yJxd2413_init_da8c8.cls]) (by decide +kernel) _ List.mem_cons_self
theorem q_iIni : Cond.initialized RJ6 ∈ lw_all := lwa_all (L := [Cond.initialized RJ6]) (by decide +kernel) _ List.mem_cons_self
theorem lkI_J6_202 : LkI RJ6 202 yJxd2413_init_da8c8 cJxd2413_init_da8c8 1 0 := LkI.of q_909 q_910 q_nIni q_911 rfl (by decide +kernel)
theorem lkI_J6_199 : LkI RJ6 199 yJ6_init_d00df cJ6_init_d00df 2 1 := LkI.of q_906 q_907 q_iIni q_908 rfl (by decide +kernel)
theorem ct_Integer_init {l : Launch} {G : Gr} {a : Nat → Nat} (u : St) (q : Nat) (x v : Int) (hL : q ∈ sL u) (hF : sF u q = boxE x) : CtV l G yJ6_init_d00df (ws_ yJ6_init_d00df cJ6_init_d00df 2 none) { frames := 2, cells := 0, slots := 0, locals := 32 } [.ref q, zI v] (WC G a u) 0 0 (fun w' => w' = WC G a (pF u q (boxE v))) := by
  refine CtV.ofInit (by decide) rfl (Nat.le_of_ble_eq_true rfl) ?_
  intro p e s m args below meth c ls hin X hr hlk K g h hl
  have hl : lv_has ls 2 [(0, .ref q), (1, zI v)] := hl
  refine z_aload_n X hl 0 rfl rfl dJ6_init_d00df_0 ?_
  refine r_callIv (rest := []) X K g h (ct_Number_init q) lkI_J6_202 ⟨rfl, rfl⟩ ⟨Nat.le_of_ble_eq_true rfl, Nat.le_of_ble_eq_true rfl⟩ rfl (lv_size hl) rfl (Nat.le_of_ble_eq_true rfl) dJ6_init_d00df_1 ⟨Nat.le_of_ble_eq_true rfl, Nat.le_of_ble_eq_true rfl⟩ (fun w' H locs hp h => ?_)
  subst hp
  refine z_aload_n X hl 0 rfl rfl dJ6_init_d00df_4 ?_
  refine z_iload_n X hl 1 rfl rfl dJ6_init_d00df_5 ?_
  obtain ⟨k, hk⟩ := va_pl_get (X := stC G a u) (f := sF u) hL
  have hk0 := hk
  rw [hF] at hk
  refine va_putF X.1 X.2.1 X.2.2.2.2 inJ6 tyJ6 tyJ6_ok nmJ6 X.2.2.2.1 K h.1 h.2.1 h.2.2.1 k hk (ci := 12) rfl 0 (by decide) (X.2.2.2.2 _ q_913) (fun _ h9 => h9) rfl hin rfl (tyJ6_ok 0 (by decide)) rfl rfl (Nat.le_of_ble_eq_true rfl) dJ6_init_d00df_6 (fun H1 locs1 a1 a2 a3 => ?_)
  have e1 : (WC G a u).set k (q, boxE v) = WC G a (pF u q (boxE v)) := va_pl_set h.2.1 hL hk0
  have h2 : HW G (va_A (WC G a u) s.heap.size) s.heap (WC G a (pF u q (boxE v))) H1 locs1 := by
    rw [← e1]
    exact ⟨a1, a2, a3, h.2.2.2⟩
  exact r_vret X hr hlk K h2 (Nat.le_refl _) (Nat.le_refl _) dJ6_init_d00df_9 rfl
/-- Integer.valueOf -/
def w_J6_valueOf_2dffe (post : Option Nat → St → Prop) (mc ms : Nat) (G : Gr) (u : St) (v : Int) : Prop := InR v ∧ ((-128 ≤ v ∧ v ≤ 127) → post (some (G.2.2.1 (v + 128).toNat)) u) ∧ (¬ (-128 ≤ v ∧ v ≤ 127) → 1 ≤ mc ∧ 1 ≤ ms ∧ ∀ q : Nat, q ∉ sL u → post (some q) (pN u q (boxE v)))
abbrev rm_J6_valueOf_2dffe (mc ms : Nat) : Room := { frames := 3, cells := mc, slots := ms, locals := 53 }
theorem ct_J6_valueOf_2dffe {l : Launch} {G : Gr} {a : Nat → Nat} (mc ms : Nat) (u : St) (v : Int) (post : Option Nat → St → Prop) (hw : w_J6_valueOf_2dffe post mc ms G u v) : CtQ l G yJ6_valueOf_2dffe (ws_ yJ6_valueOf_2dffe cJ6_valueOf_2dffe 1 (some (.object "java/lang/Integer"))) (rm_J6_valueOf_2dffe mc ms) [zI v] (WC G a u) mc ms (PoR (WC G a) post) := by
  obtain ⟨hv, hw1, hw2⟩ := hw
  refine CtQ.of (by decide) (Nat.le_of_ble_eq_true rfl) ?_
  intro p e s m args below meth c ls X hr hlk K g h hl
  have hl : lv_has ls 1 [(0, zI v)] := hl
  have hS0 := h.2.2.1
  suffices hnew : ¬ (-128 ≤ v ∧ v ≤ 127) → W p l e (rm_J6_valueOf_2dffe mc ms) s m args below meth c s.heap [] 0 0 (EndQ G (WC G a u) (PoR (WC G a) post) args s mc ms below) (F0 m 23 ls []) by
    refine z_iload_n X hl 0 rfl rfl dJ6_valueOf_2dffe_0 ?_
    refine z_bipush (v := (-128)) X dJ6_valueOf_2dffe_1 (by decide) ?_
    refine z_icmp_lt (tgt := 23) X hv (by decide) dJ6_valueOf_2dffe_3 (by decide) (fun c1 => hnew (by omega)) (fun c1 => ?_)
    refine z_iload_n X hl 0 rfl rfl dJ6_valueOf_2dffe_6 ?_
    refine va_gets (v := zI 127) X.1 X.2.1 g.2.2.1.2.1 hS0 X.2.2.2.1 (X.2.2.2.2 _ q_900) (fun _ h9 => h9) dJ6_valueOf_2dffe_7 ?_
    refine z_icmp_gt (tgt := 23) X hv (by decide) dJ6_valueOf_2dffe_10 (by decide) (fun c2 => hnew (by omega)) (fun c2 => ?_)
    refine va_gets X.1 X.2.1 g.2.2.1.2.2.1 hS0 X.2.2.2.1 (X.2.2.2.2 _ q_902) (fun _ h9 => h9) dJ6_valueOf_2dffe_13 ?_
    refine z_iload_n X hl 0 rfl rfl dJ6_valueOf_2dffe_16 ?_
    refine z_sipush (v := 128) X dJ6_valueOf_2dffe_17 (by decide) ?_
    refine z_iadd X dJ6_valueOf_2dffe_20 ?_
    refine vb_tq (v := va_rf (some (G.2.2.1 (v + 128).toNat))) X.1 X.2.1 g.2.2.1.2.2.2 hS0 (zr_vp (by omega) (by omega) (by decide)) (by rw [zr_cl (by omega) (by omega)]; rfl) dJ6_valueOf_2dffe_21 ?_
    exact r_aret X hr (Or.inl ⟨_, rfl⟩) hlk K h (Nat.zero_le _) (Nat.zero_le _) dJ6_valueOf_2dffe_22 ⟨_, rfl, hw1 ⟨by omega, by omega⟩⟩
  intro hn
  obtain ⟨hm1, hm2, hw⟩ := hw2 hn
  refine r_new X K h inJ6 tyJ6_ok (ci := 12) (fs := [.int 0]) rfl q_904 q_905 q_iIni (fun j hj => by rcases (show j = 0 by omega) with rfl; rfl) ⟨by show 0 + 1 ≤ mc; omega, by show 0 + 1 ≤ ms; omega⟩ dJ6_valueOf_2dffe_23 (fun q H h => ?_)
  obtain ⟨hq, h⟩ := h.pushC
  have hL : q ∈ sL (pN u q (boxE 0)) := List.mem_append_right _ List.mem_cons_self
  have hF : sF (pN u q (boxE 0)) q = boxE 0 := va_up_self _ _ _
  refine z_dup X rfl dJ6_valueOf_2dffe_26 ?_
  refine z_iload_n X hl 0 rfl rfl dJ6_valueOf_2dffe_27 ?_
  refine r_callIv (rest := [.ref q]) X K g h (ct_Integer_init (pN u q (boxE 0)) q 0 v hL hF) lkI_J6_199 ⟨rfl, rfl⟩ ⟨Nat.le_of_ble_eq_true rfl, Nat.le_of_ble_eq_true rfl⟩ rfl (lv_size hl) rfl (Nat.le_of_ble_eq_true rfl) dJ6_valueOf_2dffe_28 ⟨by show 0 + 1 + 0 ≤ mc; omega, by show 0 + 1 + 0 ≤ ms; omega⟩ (fun w' H locs hp h => ?_)
  subst hp
  have e1 : pF (pN u q (boxE 0)) q (boxE v) = pN u q (boxE v) := by
    show (u.1, u.2.1, u.2.2.1, u.2.2.2.1 ++ [q], va_up (va_up u.2.2.2.2 q (boxE 0)) q (boxE v)) = _
    rw [bx_uu]
    rfl
  rw [e1] at h
  exact r_aret (z := some q) X hr (Or.inl ⟨_, rfl⟩) hlk K h (by show 0 + 1 + 0 ≤ mc; omega) (by show 0 + 1 + 0 ≤ ms; omega) dJ6_valueOf_2dffe_31 ⟨_, rfl, hw q hq⟩
/-- Integer.intValue -/
theorem vb_cI (j : Nat) : vb_c j = Int32.ofInt ((j : Int) - 128) := by
  rw [Int32.ofInt_sub, Int32.ofInt_eq_ofNat]
  rfl
theorem ct_J6_intValue {l : Launch} {G : Gr} {a : Nat → Nat} (u : St) (q : Nat) (v : Int) (hb : isBox G u q v) : Ct l G yJ6_intValue_8abf5 (ws_ yJ6_intValue_8abf5 cJ6_intValue_8abf5 1 (some .int)) { frames := 0, cells := 0, slots := 0, locals := 0 } [.ref q] (WC G a u) 0 0 (fun z w' => w' = WC G a u ∧ z = v) := by
  refine Ct.of (by decide) (Nat.le_of_ble_eq_true rfl) ?_
  intro p e s m args below meth c ls X hr hlk K g h hl
  have hl : lv_has ls 1 [(0, .ref q)] := hl
  refine z_aload_n X hl 0 rfl rfl dJ6_intValue_8abf5_0 ?_
  have hend : W p l e { frames := 0, cells := 0, slots := 0, locals := 0 } s m args below meth c s.heap [] 0 0 (EndI G (WC G a u) (fun z w' => w' = WC G a u ∧ z = v) args s 0 0 below) (F0 m (0 + 1 + 3) ls [zI v]) := r_iret X hr hlk K h (Nat.le_refl _) (Nat.le_refl _) dJ6_intValue_8abf5_4 ⟨rfl, rfl⟩
  rcases hb with ⟨hL, hF⟩ | ⟨j, hj, rfl, rfl⟩
  · obtain ⟨k, hk⟩ := va_pl_get (X := stC G a u) (f := sF u) hL
    rw [hF] at hk
    exact r_get X K h inJ6 k hk (ci := 12) rfl 0 (by decide) q_913 rfl dJ6_intValue_8abf5_1 hend
  · refine va_getX X.1 X.2.1 g.2.2.1.1.2 hj h.2.2.1 X.2.2.2.1 (X.2.2.2.2 _ q_913) (fun _ h9 => h9) dJ6_intValue_8abf5_1 ?_
    rw [vb_cI]
    exact hend
section
variable {p : Program} {l : Launch} {e : Env} {R : Room} {s : State} {m : MethodId} {args : Array Value} {below : List Frame} {meth : Method} {c : Code} {H : Heap} {locs : List Loc} {cells slots : Nat} {Q : State → Prop}
variable {cc : ByteArray} {own : String} {nL pc : Nat} {ls : Array Slot} {rest : List Value} {G : Gr} {A : Nat → Prop} {a : Nat → Nat} {u : St}
theorem z_intValue (X : CallFix p m c cc nL s args lw_all own) (K : KK G s) (g : Gd G A s s.heap) (h : HW G A s.heap (WC G a u) H locs) {r : Option Nat} {q idx : Nat} {v : Int} (hr : r = some q) (hb : isBox G u q v) (lk : LkV own idx RJ6 yJ6_intValue_8abf5 cJ6_intValue_8abf5 1 (some .int) 0) (hR : 1 ≤ R.frames ∧ 20 ≤ R.locals) (hls : ls.size = nL) (hW : (rest.map fun v => v.category).sum ≤ 8) (hdg : decode cc pc = .ok (.invokevirtual idx, 3)) (hk : cells + 0 ≤ R.cells ∧ slots + 0 ≤ R.slots) (kk : ∀ (H1 : Heap) (locs1 : List Loc), HW G A s.heap (WC G a u) H1 locs1 → W p l e R s m args below meth c H1 locs1 (cells + 0) (slots + 0) Q (F0 m (pc + 3) ls (zI v :: rest))) : W p l e R s m args below meth c H locs cells slots Q (F0 m pc ls (va_rf r :: rest)) := by
  subst hr
  refine va_calli (va_runV (As := []) (rest := rest) X (ct_J6_intValue u q v hb H.size) (cwV 0 X.2.2.2.2 lk.1 rfl rfl rfl lk.2 ⟨hR.1, hR.2⟩) ⟨PreW.blind, hb.recv K g h, fun U hU hW => ⟨rfl, h.pre K g hU hW⟩⟩ rfl rfl hls rfl (lv_room hW) hdg hk) h.2.2.1 (fun q _ hq => h.incl q hq) h.incl (fun r u2 t H1 locs1 ht hvm hw hB hz1 hk1 hS => ?_)
  obtain ⟨z, rfl, rfl, rfl⟩ := hw
  exact kk H1 locs1 ⟨by rw [← ht]; exact hB.1, hB.2.2.weaken (fun _ _ _ hq => h.incl _ hq), hS, h.2.2.2⟩
end
