/-! the law's own wrappers: a call that may throw, its answer in a cell for a long -/
abbrev wsW_ (y : MethodName) (cc : ByteArray) (n : Nat) (ret : Option FieldType) (hh : List (Nat × Nat × Nat × Nat)) : List Cond := .codeWith y cc n ret hh :: lw_all
theorem Ct.ofW {l : Launch} {G : Gr} {y : MethodName} {cc : ByteArray} {nL : Nat} {ret : Option FieldType} {hh : List (Nat × Nat × Nat × Nat)} {rm : Room} {As : List Value} {w : va_W} {mc ms : Nat} {Post : Int → va_W → Prop} (hy : plainName y.cls = true) (hlen : (lg_sl As).length ≤ nL)
    (body : ∀ (p : Program) (e : Env) (s : State) (m : MethodId) (args : Array Value) (below : List Frame) (meth : Method) (c : Code) (ls : Array Slot), c.exceptionTable.toList = tableOf hh → CallFix p m c cc nL s args lw_all y.cls → meth.sig.returnType = ret → meth.locks = false → KK G s → Gd G (va_A w s.heap.size) s s.heap → HW G (va_A w s.heap.size) s.heap w s.heap [] → lv_has ls nL (lv_args 0 As) → W p l e rm s m args below meth c s.heap [] 0 0 (MQ below (QcI G w s.heap.size Post) args s mc ms (va_A w s.heap.size)) (F0 m 0 ls [])) : Ct l G y (wsW_ y cc nL ret hh) rm As w mc ms Post := by
  intro sz
  refine va_MetW (cc := cc) (maxL := nL) (ret := ret) (hh := hh) hy rfl ?_
  intro p e s m args below meth c s₁ B hml hv
  obtain ⟨rfl, rfl, hP, hK, hD0, hG⟩ := hv
  have hts : ∀ w ∈ wsW_ y cc nL ret hh, w.before As.toArray s = true := atoms_spec (ws := wsW_ y cc nL ret hh) B.pre
  rw [lg_entry_eq]
  exact body p e s m _ below meth c _ (vx_table (x := y) B (hts _ List.mem_cons_self)) ⟨B.exec, B.bytes, hml, findClass_of_methodNamed B.named, fun w h => hts w (List.mem_cons_of_mem _ h)⟩ B.returns B.notSynchronized hK hG ⟨hP, hD0.self, va_S.rf, fun q h => Or.inr h⟩ (lv_entry As hlen)
abbrev longE (G : Gr) (f : Nat → Int64) : va_E := .inl (G.2.1 4, 1, .inr (.inl f))
abbrev PoW (G : Gr) (o : Nat) (f : Nat → Int64) (Post : Int → va_W → Prop) (PX : va_W → Prop) : Int → va_W → Prop := fun r w' => (r = 0 ∧ ∃ (z : Int) (w1 : va_W), w' = w1 ++ [(o, longE G (vp_updL f 0 (Int32.ofInt z).toInt64))] ∧ Post z w1) ∨ (r = 1 ∧ ∃ w1 : va_W, w' = w1 ++ [(o, longE G f)] ∧ PX w1)
section
variable {p : Program} {l : Launch} {e : Env} {R : Room} {s : State} {m : MethodId} {args : Array Value} {below : List Frame} {meth : Method} {c : Code} {H : Heap} {locs : List Loc} {cells slots : Nat} {Q : State → Prop}
variable {cc : ByteArray} {own : String} {nL pc : Nat} {ls : Array Slot} {rest : List Value} {G : Gr} {A : Nat → Prop} {w : va_W}
theorem r_lastO (X : CallFix p m c cc nL s args lw_all own) (K : KK G s) {o : Nat} {f : Nat → Int64} {x : Int64} (h : HW G A s.heap (w ++ [(o, longE G f)]) H locs) (hdg : decode cc pc = .ok (.lastore, 1))
    (kk : ∀ (H1 : Heap) (locs1 : List Loc), HW G A s.heap (w ++ [(o, longE G (vp_updL f 0 x))]) H1 locs1 → W p l e R s m args below meth c H1 locs1 cells slots Q (F0 m (pc + 1) ls rest)) : W p l e R s m args below meth c H locs cells slots Q (F0 m pc ls (.long x :: zI 0 :: .ref o :: rest)) := by
  refine va_last X.1 X.2.1 K h.1 h.2.1 h.2.2.1 w.length 4 (n := 1) (f := f) (by rw [List.getElem?_append_right (Nat.le_refl _), Nat.sub_self]; rfl) rfl (fun q => by rcases q with q | q; exact absurd q (by decide); exact absurd q (by decide)) hdg (fun H1 locs1 a1 a2 a3 => ?_)
  rw [List.set_append_right _ _ (Nat.le_refl _), Nat.sub_self] at a1 a2
  exact kk H1 locs1 ⟨a1, a2, a3, h.2.2.2⟩
end
theorem qw_L_add : Cond.codeWith yL_add cL_add 4 (some .int) [(0, 9, 12, 13)] ∈ lw_all := lwa_all (L := [Cond.codeWith yL_add cL_add 4 (some .int) [(0, 9, 12, 13)]]) (by decide +kernel) _ List.mem_cons_self
theorem ct_L_add {l : Launch} {G : Gr} {a : Nat → Nat} {o : Nat} {f : Nat → Int64} (hst : l.stackTraces = false) (mc ms : Nat) (u0 : St) (p1 : Int) (post : Int → St → Prop) (px : St → Prop) (hw : w_X9_add post px mc ms G u0 p1) : Ct l G yL_add (wsW_ yL_add cL_add 4 (some .int) [(0, 9, 12, 13)]) { frames := 15, cells := mc, slots := ms, locals := 401 } [.ref (a 0), zI p1, .ref o] (WC G a u0 ++ [(o, longE G f)]) mc ms (PoW G o f (Po (WC G a) post) (PoV (WC G a) px)) := by
  refine Ct.ofW (by decide) (Nat.le_of_ble_eq_true rfl) ?_
  intro p e s m args below meth c ls hx9 X hr hlk K g h hl
  have hl : lv_has ls 4 [(0, .ref (a 0)), (1, zI p1), (2, .ref o)] := hl
  refine z_aload_n X hl 2 rfl rfl dL_add_0 ?_
  refine z_iconst X dL_add_1 ?_
  refine z_aload_n X hl 0 rfl rfl dL_add_2 ?_
  refine z_iload_n X hl 1 rfl rfl dL_add_3 ?_
  refine r_callVXi (rest := [zI 0, .ref o]) X K g h (CtX.beside (r := [(o, longE G f)]) (List.Perm.refl _) (ct_X9_add hst mc ms u0 p1 post px hw)) lk_L_7 0 rfl rfl ⟨rfl, rfl⟩ ⟨Nat.le_of_ble_eq_true rfl, Nat.le_of_ble_eq_true rfl⟩ rfl (lv_size hl) rfl (Nat.le_of_ble_eq_true rfl) dL_add_4 ⟨Nat.le_of_eq (Nat.zero_add _), Nat.le_of_eq (Nat.zero_add _)⟩ (fun w' H locs ce q9 hp h h1 h2 h3 => ?_) (fun z w' H locs hp h => ?_)
  · obtain ⟨w1, rfl, hp⟩ := hp
    refine vx_catch (own := RL) (name := "java/lang/IllegalArgumentException") X.2.2.2.1 [] { startPc := 0, endPc := 9, handlerPc := 12, catchType := 13 } [] hx9 (fun z hz => absurd hz List.not_mem_nil) (by decide) (by decide) (X.2.2.2.2 _ (lwa_all (L := [Cond.classLink RL 13 "java/lang/IllegalArgumentException"]) (by decide +kernel) _ List.mem_cons_self)) (va_Nw.use rfl (g.1.1 ("java/lang/IllegalArgumentException", "java/lang/IllegalArgumentException") (by decide))) h1 h2 h3 ?_
    refine z_astore_n (i := 3) (lv' := [(3, .ref q9), (0, .ref (a 0)), (1, zI p1), (2, .ref o)]) X hl rfl (by decide) dL_add_12 rfl (fun ls hl => ?_)
    refine z_iconst X dL_add_13 ?_
    exact r_iret X hr hlk K h (Nat.le_of_eq (Nat.zero_add _)) (Nat.le_of_eq (Nat.zero_add _)) dL_add_14 (Or.inr ⟨rfl, w1, rfl, hp⟩)
  · obtain ⟨w1, rfl, hp⟩ := hp
    refine lv_i2l X.1 X.2.1 dL_add_7 rfl ?_
    refine r_lastO X K h dL_add_8 (fun H locs h => ?_)
    refine z_goto (tgt := 15) X dL_add_9 (by decide) ?_
    refine z_iconst X dL_add_15 ?_
    exact r_iret X hr hlk K h (Nat.le_of_eq (Nat.zero_add _)) (Nat.le_of_eq (Nat.zero_add _)) dL_add_16 (Or.inl ⟨rfl, z, w1, rfl, hp⟩)
theorem qw_L_set : Cond.codeWith yL_set cL_set 4 (some .int) [(0, 9, 12, 13)] ∈ lw_all := lwa_all (L := [Cond.codeWith yL_set cL_set 4 (some .int) [(0, 9, 12, 13)]]) (by decide +kernel) _ List.mem_cons_self
theorem ct_L_set {l : Launch} {G : Gr} {a : Nat → Nat} {o : Nat} {f : Nat → Int64} (hst : l.stackTraces = false) (mc ms : Nat) (u0 : St) (p1 : Int) (post : Int → St → Prop) (px : St → Prop) (hw : w_X9_set post px mc ms G u0 p1) : Ct l G yL_set (wsW_ yL_set cL_set 4 (some .int) [(0, 9, 12, 13)]) { frames := 8, cells := mc, slots := ms, locals := 162 } [.ref (a 0), zI p1, .ref o] (WC G a u0 ++ [(o, longE G f)]) mc ms (PoW G o f (Po (WC G a) post) (PoV (WC G a) px)) := by
  refine Ct.ofW (by decide) (Nat.le_of_ble_eq_true rfl) ?_
  intro p e s m args below meth c ls hx9 X hr hlk K g h hl
  have hl : lv_has ls 4 [(0, .ref (a 0)), (1, zI p1), (2, .ref o)] := hl
  refine z_aload_n X hl 2 rfl rfl dL_set_0 ?_
  refine z_iconst X dL_set_1 ?_
  refine z_aload_n X hl 0 rfl rfl dL_set_2 ?_
  refine z_iload_n X hl 1 rfl rfl dL_set_3 ?_
  refine r_callVXi (rest := [zI 0, .ref o]) X K g h (CtX.beside (r := [(o, longE G f)]) (List.Perm.refl _) (ct_X9_set hst mc ms u0 p1 post px hw)) lk_L_15 0 rfl rfl ⟨rfl, rfl⟩ ⟨Nat.le_of_ble_eq_true rfl, Nat.le_of_ble_eq_true rfl⟩ rfl (lv_size hl) rfl (Nat.le_of_ble_eq_true rfl) dL_set_4 ⟨Nat.le_of_eq (Nat.zero_add _), Nat.le_of_eq (Nat.zero_add _)⟩ (fun w' H locs ce q9 hp h h1 h2 h3 => ?_) (fun z w' H locs hp h => ?_)
  · obtain ⟨w1, rfl, hp⟩ := hp
    refine vx_catch (own := RL) (name := "java/lang/IllegalArgumentException") X.2.2.2.1 [] { startPc := 0, endPc := 9, handlerPc := 12, catchType := 13 } [] hx9 (fun z hz => absurd hz List.not_mem_nil) (by decide) (by decide) (X.2.2.2.2 _ (lwa_all (L := [Cond.classLink RL 13 "java/lang/IllegalArgumentException"]) (by decide +kernel) _ List.mem_cons_self)) (va_Nw.use rfl (g.1.1 ("java/lang/IllegalArgumentException", "java/lang/IllegalArgumentException") (by decide))) h1 h2 h3 ?_
    refine z_astore_n (i := 3) (lv' := [(3, .ref q9), (0, .ref (a 0)), (1, zI p1), (2, .ref o)]) X hl rfl (by decide) dL_set_12 rfl (fun ls hl => ?_)
    refine z_iconst X dL_set_13 ?_
    exact r_iret X hr hlk K h (Nat.le_of_eq (Nat.zero_add _)) (Nat.le_of_eq (Nat.zero_add _)) dL_set_14 (Or.inr ⟨rfl, w1, rfl, hp⟩)
  · obtain ⟨w1, rfl, hp⟩ := hp
    refine lv_i2l X.1 X.2.1 dL_set_7 rfl ?_
    refine r_lastO X K h dL_set_8 (fun H locs h => ?_)
    refine z_goto (tgt := 15) X dL_set_9 (by decide) ?_
    refine z_iconst X dL_set_15 ?_
    exact r_iret X hr hlk K h (Nat.le_of_eq (Nat.zero_add _)) (Nat.le_of_eq (Nat.zero_add _)) dL_set_16 (Or.inl ⟨rfl, z, w1, rfl, hp⟩)
theorem qw_L_find : Cond.codeWith yL_find cL_find 5 (some .int) [(0, 10, 13, 13)] ∈ lw_all := lwa_all (L := [Cond.codeWith yL_find cL_find 5 (some .int) [(0, 10, 13, 13)]]) (by decide +kernel) _ List.mem_cons_self
theorem ct_L_find {l : Launch} {G : Gr} {a : Nat → Nat} {o : Nat} {f : Nat → Int64} (hst : l.stackTraces = false) (mc ms : Nat) (u0 : St) (p1 : Int) (p2 : Int) (post : Int → St → Prop) (px : St → Prop) (hw : w_X9_find post px mc ms G u0 p1 p2) : Ct l G yL_find (wsW_ yL_find cL_find 5 (some .int) [(0, 10, 13, 13)]) { frames := 8, cells := mc, slots := ms, locals := 154 } [.ref (a 0), zI p1, zI p2, .ref o] (WC G a u0 ++ [(o, longE G f)]) mc ms (PoW G o f (Po (WC G a) post) (PoV (WC G a) px)) := by
  refine Ct.ofW (by decide) (Nat.le_of_ble_eq_true rfl) ?_
  intro p e s m args below meth c ls hx9 X hr hlk K g h hl
  have hl : lv_has ls 5 [(0, .ref (a 0)), (1, zI p1), (2, zI p2), (3, .ref o)] := hl
  refine z_aload_n X hl 3 rfl rfl dL_find_0 ?_
  refine z_iconst X dL_find_1 ?_
  refine z_aload_n X hl 0 rfl rfl dL_find_2 ?_
  refine z_iload_n X hl 1 rfl rfl dL_find_3 ?_
  refine z_iload_n X hl 2 rfl rfl dL_find_4 ?_
  refine r_callVXi (rest := [zI 0, .ref o]) X K g h (CtX.beside (r := [(o, longE G f)]) (List.Perm.refl _) (ct_X9_find hst mc ms u0 p1 p2 post px hw)) lk_L_18 0 rfl rfl ⟨rfl, rfl⟩ ⟨Nat.le_of_ble_eq_true rfl, Nat.le_of_ble_eq_true rfl⟩ rfl (lv_size hl) rfl (Nat.le_of_ble_eq_true rfl) dL_find_5 ⟨Nat.le_of_eq (Nat.zero_add _), Nat.le_of_eq (Nat.zero_add _)⟩ (fun w' H locs ce q9 hp h h1 h2 h3 => ?_) (fun z w' H locs hp h => ?_)
  · obtain ⟨w1, rfl, hp⟩ := hp
    refine vx_catch (own := RL) (name := "java/lang/IllegalArgumentException") X.2.2.2.1 [] { startPc := 0, endPc := 10, handlerPc := 13, catchType := 13 } [] hx9 (fun z hz => absurd hz List.not_mem_nil) (by decide) (by decide) (X.2.2.2.2 _ (lwa_all (L := [Cond.classLink RL 13 "java/lang/IllegalArgumentException"]) (by decide +kernel) _ List.mem_cons_self)) (va_Nw.use rfl (g.1.1 ("java/lang/IllegalArgumentException", "java/lang/IllegalArgumentException") (by decide))) h1 h2 h3 ?_
    refine z_astore (i := 4) (lv' := [(4, .ref q9), (0, .ref (a 0)), (1, zI p1), (2, zI p2), (3, .ref o)]) X hl (by decide) dL_find_13 rfl (fun ls hl => ?_)
    refine z_iconst X dL_find_15 ?_
    exact r_iret X hr hlk K h (Nat.le_of_eq (Nat.zero_add _)) (Nat.le_of_eq (Nat.zero_add _)) dL_find_16 (Or.inr ⟨rfl, w1, rfl, hp⟩)
  · obtain ⟨w1, rfl, hp⟩ := hp
    refine lv_i2l X.1 X.2.1 dL_find_8 rfl ?_
    refine r_lastO X K h dL_find_9 (fun H locs h => ?_)
    refine z_goto (tgt := 17) X dL_find_10 (by decide) ?_
    refine z_iconst X dL_find_17 ?_
    exact r_iret X hr hlk K h (Nat.le_of_eq (Nat.zero_add _)) (Nat.le_of_eq (Nat.zero_add _)) dL_find_18 (Or.inl ⟨rfl, z, w1, rfl, hp⟩)
theorem qw_L_append : Cond.codeWith yL_append cL_append 8 (some .int) [(0, 16, 19, 26)] ∈ lw_all := lwa_all (L := [Cond.codeWith yL_append cL_append 8 (some .int) [(0, 16, 19, 26)]]) (by decide +kernel) _ List.mem_cons_self
theorem ct_L_append {l : Launch} {G : Gr} {a : Nat → Nat} {o : Nat} {f : Nat → Int64} (hst : l.stackTraces = false) (mc ms : Nat) (u0 : St) (p1 : Int) (p2 : Int) (p3 : Int) (p4 : Int) (p5 : Int) (post : Int → St → Prop) (px : St → Prop) (hw : w_X9_append post px mc ms u0 p1 p2 p3 p4 p5) : Ct l G yL_append (wsW_ yL_append cL_append 8 (some .int) [(0, 16, 19, 26)]) { frames := 7, cells := mc, slots := ms, locals := 116 } [.ref (a 0), zI p1, zI p2, zI p3, zI p4, zI p5, .ref o] (WC G a u0 ++ [(o, longE G f)]) mc ms (PoW G o f (Po (WC G a) post) (PoV (WC G a) px)) := by
  refine Ct.ofW (by decide) (Nat.le_of_ble_eq_true rfl) ?_
  intro p e s m args below meth c ls hx9 X hr hlk K g h hl
  have hl : lv_has ls 8 [(0, .ref (a 0)), (1, zI p1), (2, zI p2), (3, zI p3), (4, zI p4), (5, zI p5), (6, .ref o)] := hl
  refine z_aload X hl 6 rfl dL_append_0 ?_
  refine z_iconst X dL_append_2 ?_
  refine z_aload_n X hl 0 rfl rfl dL_append_3 ?_
  refine z_iload_n X hl 1 rfl rfl dL_append_4 ?_
  refine z_iload_n X hl 2 rfl rfl dL_append_5 ?_
  refine z_iload_n X hl 3 rfl rfl dL_append_6 ?_
  refine z_iload X hl 4 rfl dL_append_7 ?_
  refine z_iload X hl 5 rfl dL_append_9 ?_
  refine r_callVXi (rest := [zI 0, .ref o]) X K g h (CtX.beside (r := [(o, longE G f)]) (List.Perm.refl _) (ct_X9_append hst mc ms u0 p1 p2 p3 p4 p5 post px hw)) lk_L_22 0 rfl rfl ⟨rfl, rfl⟩ ⟨Nat.le_of_ble_eq_true rfl, Nat.le_of_ble_eq_true rfl⟩ rfl (lv_size hl) rfl (Nat.le_of_ble_eq_true rfl) dL_append_11 ⟨Nat.le_of_eq (Nat.zero_add _), Nat.le_of_eq (Nat.zero_add _)⟩ (fun w' H locs ce q9 hp h h1 h2 h3 => ?_) (fun z w' H locs hp h => ?_)
  · obtain ⟨w1, rfl, hp⟩ := hp
    refine vx_catch (own := RL) (name := "java/lang/IllegalStateException") X.2.2.2.1 [] { startPc := 0, endPc := 16, handlerPc := 19, catchType := 26 } [] hx9 (fun z hz => absurd hz List.not_mem_nil) (by decide) (by decide) (X.2.2.2.2 _ (lwa_all (L := [Cond.classLink RL 26 "java/lang/IllegalStateException"]) (by decide +kernel) _ List.mem_cons_self)) (va_Nw.use rfl (g.1.1 ("java/lang/IllegalStateException", "java/lang/IllegalStateException") (by decide))) h1 h2 h3 ?_
    refine z_astore (i := 7) (lv' := [(7, .ref q9), (0, .ref (a 0)), (1, zI p1), (2, zI p2), (3, zI p3), (4, zI p4), (5, zI p5), (6, .ref o)]) X hl (by decide) dL_append_19 rfl (fun ls hl => ?_)
    refine z_iconst X dL_append_21 ?_
    exact r_iret X hr hlk K h (Nat.le_of_eq (Nat.zero_add _)) (Nat.le_of_eq (Nat.zero_add _)) dL_append_22 (Or.inr ⟨rfl, w1, rfl, hp⟩)
  · obtain ⟨w1, rfl, hp⟩ := hp
    refine lv_i2l X.1 X.2.1 dL_append_14 rfl ?_
    refine r_lastO X K h dL_append_15 (fun H locs h => ?_)
    refine z_goto (tgt := 23) X dL_append_16 (by decide) ?_
    refine z_iconst X dL_append_23 ?_
    exact r_iret X hr hlk K h (Nat.le_of_eq (Nat.zero_add _)) (Nat.le_of_eq (Nat.zero_add _)) dL_append_24 (Or.inl ⟨rfl, z, w1, rfl, hp⟩)
theorem qw_L_fill : Cond.codeWith yL_fill cL_fill 3 (some .int) [(0, 8, 11, 13)] ∈ lw_all := lwa_all (L := [Cond.codeWith yL_fill cL_fill 3 (some .int) [(0, 8, 11, 13)]]) (by decide +kernel) _ List.mem_cons_self
theorem ct_L_fill {l : Launch} {G : Gr} {a : Nat → Nat} {o : Nat} {f : Nat → Int64} (hst : l.stackTraces = false) (mc ms : Nat) (u0 : St)  (post : Int → St → Prop) (px : St → Prop) (hw : w_X9_fill post px mc ms G u0) : Ct l G yL_fill (wsW_ yL_fill cL_fill 3 (some .int) [(0, 8, 11, 13)]) { frames := 14, cells := mc, slots := ms, locals := 380 } [.ref (a 0), .ref o] (WC G a u0 ++ [(o, longE G f)]) mc ms (PoW G o f (Po (WC G a) post) (PoV (WC G a) px)) := by
  refine Ct.ofW (by decide) (Nat.le_of_ble_eq_true rfl) ?_
  intro p e s m args below meth c ls hx9 X hr hlk K g h hl
  have hl : lv_has ls 3 [(0, .ref (a 0)), (1, .ref o)] := hl
  refine z_aload_n X hl 1 rfl rfl dL_fill_0 ?_
  refine z_iconst X dL_fill_1 ?_
  refine z_aload_n X hl 0 rfl rfl dL_fill_2 ?_
  refine r_callVXi (rest := [zI 0, .ref o]) X K g h (CtX.beside (r := [(o, longE G f)]) (List.Perm.refl _) (ct_X9_fill hst mc ms u0 post px hw)) lk_L_28 0 rfl rfl ⟨rfl, rfl⟩ ⟨Nat.le_of_ble_eq_true rfl, Nat.le_of_ble_eq_true rfl⟩ rfl (lv_size hl) rfl (Nat.le_of_ble_eq_true rfl) dL_fill_3 ⟨Nat.le_of_eq (Nat.zero_add _), Nat.le_of_eq (Nat.zero_add _)⟩ (fun w' H locs ce q9 hp h h1 h2 h3 => ?_) (fun z w' H locs hp h => ?_)
  · obtain ⟨w1, rfl, hp⟩ := hp
    refine vx_catch (own := RL) (name := "java/lang/IllegalArgumentException") X.2.2.2.1 [] { startPc := 0, endPc := 8, handlerPc := 11, catchType := 13 } [] hx9 (fun z hz => absurd hz List.not_mem_nil) (by decide) (by decide) (X.2.2.2.2 _ (lwa_all (L := [Cond.classLink RL 13 "java/lang/IllegalArgumentException"]) (by decide +kernel) _ List.mem_cons_self)) (va_Nw.use rfl (g.1.1 ("java/lang/IllegalArgumentException", "java/lang/IllegalArgumentException") (by decide))) h1 h2 h3 ?_
    refine z_astore_n (i := 2) (lv' := [(2, .ref q9), (0, .ref (a 0)), (1, .ref o)]) X hl rfl (by decide) dL_fill_11 rfl (fun ls hl => ?_)
    refine z_iconst X dL_fill_12 ?_
    exact r_iret X hr hlk K h (Nat.le_of_eq (Nat.zero_add _)) (Nat.le_of_eq (Nat.zero_add _)) dL_fill_13 (Or.inr ⟨rfl, w1, rfl, hp⟩)
  · obtain ⟨w1, rfl, hp⟩ := hp
    refine lv_i2l X.1 X.2.1 dL_fill_6 rfl ?_
    refine r_lastO X K h dL_fill_7 (fun H locs h => ?_)
    refine z_goto (tgt := 14) X dL_fill_8 (by decide) ?_
    refine z_iconst X dL_fill_14 ?_
    exact r_iret X hr hlk K h (Nat.le_of_eq (Nat.zero_add _)) (Nat.le_of_eq (Nat.zero_add _)) dL_fill_15 (Or.inl ⟨rfl, z, w1, rfl, hp⟩)
theorem qw_L_run : Cond.codeWith yL_run cL_run 3 (some .int) [(0, 8, 11, 13)] ∈ lw_all := lwa_all (L := [Cond.codeWith yL_run cL_run 3 (some .int) [(0, 8, 11, 13)]]) (by decide +kernel) _ List.mem_cons_self
theorem ct_L_run {l : Launch} {G : Gr} {a : Nat → Nat} {o : Nat} {f : Nat → Int64} (hst : l.stackTraces = false) (mc ms : Nat) (u0 : St)  (post : Int → St → Prop) (px : St → Prop) (hw : w_X9_run post px mc ms G u0) : Ct l G yL_run (wsW_ yL_run cL_run 3 (some .int) [(0, 8, 11, 13)]) { frames := 29, cells := mc, slots := ms, locals := 1050 } [.ref (a 0), .ref o] (WC G a u0 ++ [(o, longE G f)]) mc ms (PoW G o f (Po (WC G a) post) (PoV (WC G a) px)) := by
  refine Ct.ofW (by decide) (Nat.le_of_ble_eq_true rfl) ?_
  intro p e s m args below meth c ls hx9 X hr hlk K g h hl
  have hl : lv_has ls 3 [(0, .ref (a 0)), (1, .ref o)] := hl
  refine z_aload_n X hl 1 rfl rfl dL_run_0 ?_
  refine z_iconst X dL_run_1 ?_
  refine z_aload_n X hl 0 rfl rfl dL_run_2 ?_
  refine r_callVXi (rest := [zI 0, .ref o]) X K g h (CtX.beside (r := [(o, longE G f)]) (List.Perm.refl _) (ct_X9_run hst mc ms u0 post px hw)) lk_L_32 0 rfl rfl ⟨rfl, rfl⟩ ⟨Nat.le_of_ble_eq_true rfl, Nat.le_of_ble_eq_true rfl⟩ rfl (lv_size hl) rfl (Nat.le_of_ble_eq_true rfl) dL_run_3 ⟨Nat.le_of_eq (Nat.zero_add _), Nat.le_of_eq (Nat.zero_add _)⟩ (fun w' H locs ce q9 hp h h1 h2 h3 => ?_) (fun z w' H locs hp h => ?_)
  · obtain ⟨w1, rfl, hp⟩ := hp
    refine vx_catch (own := RL) (name := "java/lang/IllegalArgumentException") X.2.2.2.1 [] { startPc := 0, endPc := 8, handlerPc := 11, catchType := 13 } [] hx9 (fun z hz => absurd hz List.not_mem_nil) (by decide) (by decide) (X.2.2.2.2 _ (lwa_all (L := [Cond.classLink RL 13 "java/lang/IllegalArgumentException"]) (by decide +kernel) _ List.mem_cons_self)) (va_Nw.use rfl (g.1.1 ("java/lang/IllegalArgumentException", "java/lang/IllegalArgumentException") (by decide))) h1 h2 h3 ?_
    refine z_astore_n (i := 2) (lv' := [(2, .ref q9), (0, .ref (a 0)), (1, .ref o)]) X hl rfl (by decide) dL_run_11 rfl (fun ls hl => ?_)
    refine z_iconst X dL_run_12 ?_
    exact r_iret X hr hlk K h (Nat.le_of_eq (Nat.zero_add _)) (Nat.le_of_eq (Nat.zero_add _)) dL_run_13 (Or.inr ⟨rfl, w1, rfl, hp⟩)
  · obtain ⟨w1, rfl, hp⟩ := hp
    refine lv_i2l X.1 X.2.1 dL_run_6 rfl ?_
    refine r_lastO X K h dL_run_7 (fun H locs h => ?_)
    refine z_goto (tgt := 14) X dL_run_8 (by decide) ?_
    refine z_iconst X dL_run_14 ?_
    exact r_iret X hr hlk K h (Nat.le_of_eq (Nat.zero_add _)) (Nat.le_of_eq (Nat.zero_add _)) dL_run_15 (Or.inl ⟨rfl, z, w1, rfl, hp⟩)
theorem qw_L_wordAt : Cond.codeWith yL_wordAt cL_wordAt 4 (some .int) [(0, 9, 12, 38)] ∈ lw_all := lwa_all (L := [Cond.codeWith yL_wordAt cL_wordAt 4 (some .int) [(0, 9, 12, 38)]]) (by decide +kernel) _ List.mem_cons_self
theorem ct_L_wordAt {l : Launch} {G : Gr} {a : Nat → Nat} {o : Nat} {f : Nat → Int64} (hst : l.stackTraces = false) (mc ms : Nat) (u0 : St) (p1 : Int) (post : Int → Prop) (px : Prop) (hw : w_X9_wordAt post px mc ms u0 p1) : Ct l G yL_wordAt (wsW_ yL_wordAt cL_wordAt 4 (some .int) [(0, 9, 12, 38)]) { frames := 7, cells := mc, slots := ms, locals := 111 } [.ref (a 0), zI p1, .ref o] (WC G a u0 ++ [(o, longE G f)]) mc ms (PoW G o f (PoP (WC G a u0) post) (PoQ (WC G a u0) px)) := by
  refine Ct.ofW (by decide) (Nat.le_of_ble_eq_true rfl) ?_
  intro p e s m args below meth c ls hx9 X hr hlk K g h hl
  have hl : lv_has ls 4 [(0, .ref (a 0)), (1, zI p1), (2, .ref o)] := hl
  refine z_aload_n X hl 2 rfl rfl dL_wordAt_0 ?_
  refine z_iconst X dL_wordAt_1 ?_
  refine z_aload_n X hl 0 rfl rfl dL_wordAt_2 ?_
  refine z_iload_n X hl 1 rfl rfl dL_wordAt_3 ?_
  refine r_callVXi (rest := [zI 0, .ref o]) X K g h (CtX.beside (r := [(o, longE G f)]) (List.Perm.refl _) (ct_X9_wordAt hst mc ms u0 p1 post px hw)) lk_L_35 0 rfl rfl ⟨rfl, rfl⟩ ⟨Nat.le_of_ble_eq_true rfl, Nat.le_of_ble_eq_true rfl⟩ rfl (lv_size hl) rfl (Nat.le_of_ble_eq_true rfl) dL_wordAt_4 ⟨Nat.le_of_eq (Nat.zero_add _), Nat.le_of_eq (Nat.zero_add _)⟩ (fun w' H locs ce q9 hp h h1 h2 h3 => ?_) (fun z w' H locs hp h => ?_)
  · obtain ⟨w1, rfl, hp⟩ := hp
    refine vx_catch (own := RL) (name := "java/lang/IndexOutOfBoundsException") X.2.2.2.1 [] { startPc := 0, endPc := 9, handlerPc := 12, catchType := 38 } [] hx9 (fun z hz => absurd hz List.not_mem_nil) (by decide) (by decide) (X.2.2.2.2 _ (lwa_all (L := [Cond.classLink RL 38 "java/lang/IndexOutOfBoundsException"]) (by decide +kernel) _ List.mem_cons_self)) (va_Nw.use rfl (g.1.1 ("java/lang/IndexOutOfBoundsException", "java/lang/IndexOutOfBoundsException") (by decide))) h1 h2 h3 ?_
    refine z_astore_n (i := 3) (lv' := [(3, .ref q9), (0, .ref (a 0)), (1, zI p1), (2, .ref o)]) X hl rfl (by decide) dL_wordAt_12 rfl (fun ls hl => ?_)
    refine z_iconst X dL_wordAt_13 ?_
    exact r_iret X hr hlk K h (Nat.le_of_eq (Nat.zero_add _)) (Nat.le_of_eq (Nat.zero_add _)) dL_wordAt_14 (Or.inr ⟨rfl, w1, rfl, hp⟩)
  · obtain ⟨w1, rfl, hp⟩ := hp
    refine lv_i2l X.1 X.2.1 dL_wordAt_7 rfl ?_
    refine r_lastO X K h dL_wordAt_8 (fun H locs h => ?_)
    refine z_goto (tgt := 15) X dL_wordAt_9 (by decide) ?_
    refine z_iconst X dL_wordAt_15 ?_
    exact r_iret X hr hlk K h (Nat.le_of_eq (Nat.zero_add _)) (Nat.le_of_eq (Nat.zero_add _)) dL_wordAt_16 (Or.inl ⟨rfl, z, w1, rfl, hp⟩)
theorem qw_L_indexOf : Cond.codeWith yL_indexOf cL_indexOf 4 (some .int) [(0, 9, 12, 13)] ∈ lw_all := lwa_all (L := [Cond.codeWith yL_indexOf cL_indexOf 4 (some .int) [(0, 9, 12, 13)]]) (by decide +kernel) _ List.mem_cons_self
theorem ct_L_indexOf {l : Launch} {G : Gr} {a : Nat → Nat} {o : Nat} {f : Nat → Int64} (hst : l.stackTraces = false) (mc ms : Nat) (u0 : St) (p1 : Int) (post : Int → Prop) (px : Prop) (hw : w_X9_indexOf post px mc ms u0 p1) : Ct l G yL_indexOf (wsW_ yL_indexOf cL_indexOf 4 (some .int) [(0, 9, 12, 13)]) { frames := 8, cells := mc, slots := ms, locals := 131 } [.ref (a 0), zI p1, .ref o] (WC G a u0 ++ [(o, longE G f)]) mc ms (PoW G o f (PoP (WC G a u0) post) (PoQ (WC G a u0) px)) := by
  refine Ct.ofW (by decide) (Nat.le_of_ble_eq_true rfl) ?_
  intro p e s m args below meth c ls hx9 X hr hlk K g h hl
  have hl : lv_has ls 4 [(0, .ref (a 0)), (1, zI p1), (2, .ref o)] := hl
  refine z_aload_n X hl 2 rfl rfl dL_indexOf_0 ?_
  refine z_iconst X dL_indexOf_1 ?_
  refine z_aload_n X hl 0 rfl rfl dL_indexOf_2 ?_
  refine z_iload_n X hl 1 rfl rfl dL_indexOf_3 ?_
  refine r_callVXi (rest := [zI 0, .ref o]) X K g h (CtX.beside (r := [(o, longE G f)]) (List.Perm.refl _) (ct_X9_indexOf hst mc ms u0 p1 post px hw)) lk_L_40 0 rfl rfl ⟨rfl, rfl⟩ ⟨Nat.le_of_ble_eq_true rfl, Nat.le_of_ble_eq_true rfl⟩ rfl (lv_size hl) rfl (Nat.le_of_ble_eq_true rfl) dL_indexOf_4 ⟨Nat.le_of_eq (Nat.zero_add _), Nat.le_of_eq (Nat.zero_add _)⟩ (fun w' H locs ce q9 hp h h1 h2 h3 => ?_) (fun z w' H locs hp h => ?_)
  · obtain ⟨w1, rfl, hp⟩ := hp
    refine vx_catch (own := RL) (name := "java/lang/IllegalArgumentException") X.2.2.2.1 [] { startPc := 0, endPc := 9, handlerPc := 12, catchType := 13 } [] hx9 (fun z hz => absurd hz List.not_mem_nil) (by decide) (by decide) (X.2.2.2.2 _ (lwa_all (L := [Cond.classLink RL 13 "java/lang/IllegalArgumentException"]) (by decide +kernel) _ List.mem_cons_self)) (va_Nw.use rfl (g.1.1 ("java/lang/IllegalArgumentException", "java/lang/IllegalArgumentException") (by decide))) h1 h2 h3 ?_
    refine z_astore_n (i := 3) (lv' := [(3, .ref q9), (0, .ref (a 0)), (1, zI p1), (2, .ref o)]) X hl rfl (by decide) dL_indexOf_12 rfl (fun ls hl => ?_)
    refine z_iconst X dL_indexOf_13 ?_
    exact r_iret X hr hlk K h (Nat.le_of_eq (Nat.zero_add _)) (Nat.le_of_eq (Nat.zero_add _)) dL_indexOf_14 (Or.inr ⟨rfl, w1, rfl, hp⟩)
  · obtain ⟨w1, rfl, hp⟩ := hp
    refine lv_i2l X.1 X.2.1 dL_indexOf_7 rfl ?_
    refine r_lastO X K h dL_indexOf_8 (fun H locs h => ?_)
    refine z_goto (tgt := 15) X dL_indexOf_9 (by decide) ?_
    refine z_iconst X dL_indexOf_15 ?_
    exact r_iret X hr hlk K h (Nat.le_of_eq (Nat.zero_add _)) (Nat.le_of_eq (Nat.zero_add _)) dL_indexOf_16 (Or.inl ⟨rfl, z, w1, rfl, hp⟩)
theorem qw_L_lastIndexOf : Cond.codeWith yL_lastIndexOf cL_lastIndexOf 4 (some .int) [(0, 9, 12, 13)] ∈ lw_all := lwa_all (L := [Cond.codeWith yL_lastIndexOf cL_lastIndexOf 4 (some .int) [(0, 9, 12, 13)]]) (by decide +kernel) _ List.mem_cons_self
theorem ct_L_lastIndexOf {l : Launch} {G : Gr} {a : Nat → Nat} {o : Nat} {f : Nat → Int64} (hst : l.stackTraces = false) (mc ms : Nat) (u0 : St) (p1 : Int) (post : Int → Prop) (px : Prop) (hw : w_X9_lastIndexOf post px mc ms u0 p1) : Ct l G yL_lastIndexOf (wsW_ yL_lastIndexOf cL_lastIndexOf 4 (some .int) [(0, 9, 12, 13)]) { frames := 8, cells := mc, slots := ms, locals := 132 } [.ref (a 0), zI p1, .ref o] (WC G a u0 ++ [(o, longE G f)]) mc ms (PoW G o f (PoP (WC G a u0) post) (PoQ (WC G a u0) px)) := by
  refine Ct.ofW (by decide) (Nat.le_of_ble_eq_true rfl) ?_
  intro p e s m args below meth c ls hx9 X hr hlk K g h hl
  have hl : lv_has ls 4 [(0, .ref (a 0)), (1, zI p1), (2, .ref o)] := hl
  refine z_aload_n X hl 2 rfl rfl dL_lastIndexOf_0 ?_
  refine z_iconst X dL_lastIndexOf_1 ?_
  refine z_aload_n X hl 0 rfl rfl dL_lastIndexOf_2 ?_
  refine z_iload_n X hl 1 rfl rfl dL_lastIndexOf_3 ?_
  refine r_callVXi (rest := [zI 0, .ref o]) X K g h (CtX.beside (r := [(o, longE G f)]) (List.Perm.refl _) (ct_X9_lastIndexOf hst mc ms u0 p1 post px hw)) lk_L_43 0 rfl rfl ⟨rfl, rfl⟩ ⟨Nat.le_of_ble_eq_true rfl, Nat.le_of_ble_eq_true rfl⟩ rfl (lv_size hl) rfl (Nat.le_of_ble_eq_true rfl) dL_lastIndexOf_4 ⟨Nat.le_of_eq (Nat.zero_add _), Nat.le_of_eq (Nat.zero_add _)⟩ (fun w' H locs ce q9 hp h h1 h2 h3 => ?_) (fun z w' H locs hp h => ?_)
  · obtain ⟨w1, rfl, hp⟩ := hp
    refine vx_catch (own := RL) (name := "java/lang/IllegalArgumentException") X.2.2.2.1 [] { startPc := 0, endPc := 9, handlerPc := 12, catchType := 13 } [] hx9 (fun z hz => absurd hz List.not_mem_nil) (by decide) (by decide) (X.2.2.2.2 _ (lwa_all (L := [Cond.classLink RL 13 "java/lang/IllegalArgumentException"]) (by decide +kernel) _ List.mem_cons_self)) (va_Nw.use rfl (g.1.1 ("java/lang/IllegalArgumentException", "java/lang/IllegalArgumentException") (by decide))) h1 h2 h3 ?_
    refine z_astore_n (i := 3) (lv' := [(3, .ref q9), (0, .ref (a 0)), (1, zI p1), (2, .ref o)]) X hl rfl (by decide) dL_lastIndexOf_12 rfl (fun ls hl => ?_)
    refine z_iconst X dL_lastIndexOf_13 ?_
    exact r_iret X hr hlk K h (Nat.le_of_eq (Nat.zero_add _)) (Nat.le_of_eq (Nat.zero_add _)) dL_lastIndexOf_14 (Or.inr ⟨rfl, w1, rfl, hp⟩)
  · obtain ⟨w1, rfl, hp⟩ := hp
    refine lv_i2l X.1 X.2.1 dL_lastIndexOf_7 rfl ?_
    refine r_lastO X K h dL_lastIndexOf_8 (fun H locs h => ?_)
    refine z_goto (tgt := 15) X dL_lastIndexOf_9 (by decide) ?_
    refine z_iconst X dL_lastIndexOf_15 ?_
    exact r_iret X hr hlk K h (Nat.le_of_eq (Nat.zero_add _)) (Nat.le_of_eq (Nat.zero_add _)) dL_lastIndexOf_16 (Or.inl ⟨rfl, z, w1, rfl, hp⟩)
theorem qw_L_count : Cond.codeWith yL_count cL_count 4 (some .int) [(0, 9, 12, 13)] ∈ lw_all := lwa_all (L := [Cond.codeWith yL_count cL_count 4 (some .int) [(0, 9, 12, 13)]]) (by decide +kernel) _ List.mem_cons_self
theorem ct_L_count {l : Launch} {G : Gr} {a : Nat → Nat} {o : Nat} {f : Nat → Int64} (hst : l.stackTraces = false) (mc ms : Nat) (u0 : St) (p1 : Int) (post : Int → Prop) (px : Prop) (hw : w_X9_count post px mc ms u0 p1) : Ct l G yL_count (wsW_ yL_count cL_count 4 (some .int) [(0, 9, 12, 13)]) { frames := 8, cells := mc, slots := ms, locals := 133 } [.ref (a 0), zI p1, .ref o] (WC G a u0 ++ [(o, longE G f)]) mc ms (PoW G o f (PoP (WC G a u0) post) (PoQ (WC G a u0) px)) := by
  refine Ct.ofW (by decide) (Nat.le_of_ble_eq_true rfl) ?_
  intro p e s m args below meth c ls hx9 X hr hlk K g h hl
  have hl : lv_has ls 4 [(0, .ref (a 0)), (1, zI p1), (2, .ref o)] := hl
  refine z_aload_n X hl 2 rfl rfl dL_count_0 ?_
  refine z_iconst X dL_count_1 ?_
  refine z_aload_n X hl 0 rfl rfl dL_count_2 ?_
  refine z_iload_n X hl 1 rfl rfl dL_count_3 ?_
  refine r_callVXi (rest := [zI 0, .ref o]) X K g h (CtX.beside (r := [(o, longE G f)]) (List.Perm.refl _) (ct_X9_count hst mc ms u0 p1 post px hw)) lk_L_46 0 rfl rfl ⟨rfl, rfl⟩ ⟨Nat.le_of_ble_eq_true rfl, Nat.le_of_ble_eq_true rfl⟩ rfl (lv_size hl) rfl (Nat.le_of_ble_eq_true rfl) dL_count_4 ⟨Nat.le_of_eq (Nat.zero_add _), Nat.le_of_eq (Nat.zero_add _)⟩ (fun w' H locs ce q9 hp h h1 h2 h3 => ?_) (fun z w' H locs hp h => ?_)
  · obtain ⟨w1, rfl, hp⟩ := hp
    refine vx_catch (own := RL) (name := "java/lang/IllegalArgumentException") X.2.2.2.1 [] { startPc := 0, endPc := 9, handlerPc := 12, catchType := 13 } [] hx9 (fun z hz => absurd hz List.not_mem_nil) (by decide) (by decide) (X.2.2.2.2 _ (lwa_all (L := [Cond.classLink RL 13 "java/lang/IllegalArgumentException"]) (by decide +kernel) _ List.mem_cons_self)) (va_Nw.use rfl (g.1.1 ("java/lang/IllegalArgumentException", "java/lang/IllegalArgumentException") (by decide))) h1 h2 h3 ?_
    refine z_astore_n (i := 3) (lv' := [(3, .ref q9), (0, .ref (a 0)), (1, zI p1), (2, .ref o)]) X hl rfl (by decide) dL_count_12 rfl (fun ls hl => ?_)
    refine z_iconst X dL_count_13 ?_
    exact r_iret X hr hlk K h (Nat.le_of_eq (Nat.zero_add _)) (Nat.le_of_eq (Nat.zero_add _)) dL_count_14 (Or.inr ⟨rfl, w1, rfl, hp⟩)
  · obtain ⟨w1, rfl, hp⟩ := hp
    refine lv_i2l X.1 X.2.1 dL_count_7 rfl ?_
    refine r_lastO X K h dL_count_8 (fun H locs h => ?_)
    refine z_goto (tgt := 15) X dL_count_9 (by decide) ?_
    refine z_iconst X dL_count_15 ?_
    exact r_iret X hr hlk K h (Nat.le_of_eq (Nat.zero_add _)) (Nat.le_of_eq (Nat.zero_add _)) dL_count_16 (Or.inl ⟨rfl, z, w1, rfl, hp⟩)
theorem qw_L_writtenAt : Cond.codeWith yL_writtenAt cL_writtenAt 4 (some .int) [(0, 9, 12, 38)] ∈ lw_all := lwa_all (L := [Cond.codeWith yL_writtenAt cL_writtenAt 4 (some .int) [(0, 9, 12, 38)]]) (by decide +kernel) _ List.mem_cons_self
theorem ct_L_writtenAt {l : Launch} {G : Gr} {a : Nat → Nat} {o : Nat} {f : Nat → Int64} (hst : l.stackTraces = false) (mc ms : Nat) (u0 : St) (p1 : Int) (post : Int → Prop) (px : Prop) (hw : w_X9_writtenAt post px mc ms u0 p1) : Ct l G yL_writtenAt (wsW_ yL_writtenAt cL_writtenAt 4 (some .int) [(0, 9, 12, 38)]) { frames := 7, cells := mc, slots := ms, locals := 111 } [.ref (a 0), zI p1, .ref o] (WC G a u0 ++ [(o, longE G f)]) mc ms (PoW G o f (PoP (WC G a u0) post) (PoQ (WC G a u0) px)) := by
  refine Ct.ofW (by decide) (Nat.le_of_ble_eq_true rfl) ?_
  intro p e s m args below meth c ls hx9 X hr hlk K g h hl
  have hl : lv_has ls 4 [(0, .ref (a 0)), (1, zI p1), (2, .ref o)] := hl
  refine z_aload_n X hl 2 rfl rfl dL_writtenAt_0 ?_
  refine z_iconst X dL_writtenAt_1 ?_
  refine z_aload_n X hl 0 rfl rfl dL_writtenAt_2 ?_
  refine z_iload_n X hl 1 rfl rfl dL_writtenAt_3 ?_
  refine r_callVXi (rest := [zI 0, .ref o]) X K g h (CtX.beside (r := [(o, longE G f)]) (List.Perm.refl _) (ct_X9_writtenAt hst mc ms u0 p1 post px hw)) lk_L_49 0 rfl rfl ⟨rfl, rfl⟩ ⟨Nat.le_of_ble_eq_true rfl, Nat.le_of_ble_eq_true rfl⟩ rfl (lv_size hl) rfl (Nat.le_of_ble_eq_true rfl) dL_writtenAt_4 ⟨Nat.le_of_eq (Nat.zero_add _), Nat.le_of_eq (Nat.zero_add _)⟩ (fun w' H locs ce q9 hp h h1 h2 h3 => ?_) (fun z w' H locs hp h => ?_)
  · obtain ⟨w1, rfl, hp⟩ := hp
    refine vx_catch (own := RL) (name := "java/lang/IndexOutOfBoundsException") X.2.2.2.1 [] { startPc := 0, endPc := 9, handlerPc := 12, catchType := 38 } [] hx9 (fun z hz => absurd hz List.not_mem_nil) (by decide) (by decide) (X.2.2.2.2 _ (lwa_all (L := [Cond.classLink RL 38 "java/lang/IndexOutOfBoundsException"]) (by decide +kernel) _ List.mem_cons_self)) (va_Nw.use rfl (g.1.1 ("java/lang/IndexOutOfBoundsException", "java/lang/IndexOutOfBoundsException") (by decide))) h1 h2 h3 ?_
    refine z_astore_n (i := 3) (lv' := [(3, .ref q9), (0, .ref (a 0)), (1, zI p1), (2, .ref o)]) X hl rfl (by decide) dL_writtenAt_12 rfl (fun ls hl => ?_)
    refine z_iconst X dL_writtenAt_13 ?_
    exact r_iret X hr hlk K h (Nat.le_of_eq (Nat.zero_add _)) (Nat.le_of_eq (Nat.zero_add _)) dL_writtenAt_14 (Or.inr ⟨rfl, w1, rfl, hp⟩)
  · obtain ⟨w1, rfl, hp⟩ := hp
    refine lv_i2l X.1 X.2.1 dL_writtenAt_7 rfl ?_
    refine r_lastO X K h dL_writtenAt_8 (fun H locs h => ?_)
    refine z_goto (tgt := 15) X dL_writtenAt_9 (by decide) ?_
    refine z_iconst X dL_writtenAt_15 ?_
    exact r_iret X hr hlk K h (Nat.le_of_eq (Nat.zero_add _)) (Nat.le_of_eq (Nat.zero_add _)) dL_writtenAt_16 (Or.inl ⟨rfl, z, w1, rfl, hp⟩)
theorem qw_L_refusals : Cond.codeWith yL_refusals cL_refusals 4 (some .int) [(0, 9, 12, 13)] ∈ lw_all := lwa_all (L := [Cond.codeWith yL_refusals cL_refusals 4 (some .int) [(0, 9, 12, 13)]]) (by decide +kernel) _ List.mem_cons_self
theorem ct_L_refusals {l : Launch} {G : Gr} {a : Nat → Nat} {o : Nat} {f : Nat → Int64} (hst : l.stackTraces = false) (mc ms : Nat) (u0 : St) (p1 : Int) (post : Int → Prop) (px : Prop) (hw : w_X9_refusals post px mc ms u0 p1) : Ct l G yL_refusals (wsW_ yL_refusals cL_refusals 4 (some .int) [(0, 9, 12, 13)]) { frames := 7, cells := mc, slots := ms, locals := 111 } [.ref (a 0), zI p1, .ref o] (WC G a u0 ++ [(o, longE G f)]) mc ms (PoW G o f (PoP (WC G a u0) post) (PoQ (WC G a u0) px)) := by
  refine Ct.ofW (by decide) (Nat.le_of_ble_eq_true rfl) ?_
  intro p e s m args below meth c ls hx9 X hr hlk K g h hl
  have hl : lv_has ls 4 [(0, .ref (a 0)), (1, zI p1), (2, .ref o)] := hl
  refine z_aload_n X hl 2 rfl rfl dL_refusals_0 ?_
  refine z_iconst X dL_refusals_1 ?_
  refine z_aload_n X hl 0 rfl rfl dL_refusals_2 ?_
  refine z_iload_n X hl 1 rfl rfl dL_refusals_3 ?_
  refine r_callVXi (rest := [zI 0, .ref o]) X K g h (CtX.beside (r := [(o, longE G f)]) (List.Perm.refl _) (ct_X9_refusals hst mc ms u0 p1 post px hw)) lk_L_52 0 rfl rfl ⟨rfl, rfl⟩ ⟨Nat.le_of_ble_eq_true rfl, Nat.le_of_ble_eq_true rfl⟩ rfl (lv_size hl) rfl (Nat.le_of_ble_eq_true rfl) dL_refusals_4 ⟨Nat.le_of_eq (Nat.zero_add _), Nat.le_of_eq (Nat.zero_add _)⟩ (fun w' H locs ce q9 hp h h1 h2 h3 => ?_) (fun z w' H locs hp h => ?_)
  · obtain ⟨w1, rfl, hp⟩ := hp
    refine vx_catch (own := RL) (name := "java/lang/IllegalArgumentException") X.2.2.2.1 [] { startPc := 0, endPc := 9, handlerPc := 12, catchType := 13 } [] hx9 (fun z hz => absurd hz List.not_mem_nil) (by decide) (by decide) (X.2.2.2.2 _ (lwa_all (L := [Cond.classLink RL 13 "java/lang/IllegalArgumentException"]) (by decide +kernel) _ List.mem_cons_self)) (va_Nw.use rfl (g.1.1 ("java/lang/IllegalArgumentException", "java/lang/IllegalArgumentException") (by decide))) h1 h2 h3 ?_
    refine z_astore_n (i := 3) (lv' := [(3, .ref q9), (0, .ref (a 0)), (1, zI p1), (2, .ref o)]) X hl rfl (by decide) dL_refusals_12 rfl (fun ls hl => ?_)
    refine z_iconst X dL_refusals_13 ?_
    exact r_iret X hr hlk K h (Nat.le_of_eq (Nat.zero_add _)) (Nat.le_of_eq (Nat.zero_add _)) dL_refusals_14 (Or.inr ⟨rfl, w1, rfl, hp⟩)
  · obtain ⟨w1, rfl, hp⟩ := hp
    refine lv_i2l X.1 X.2.1 dL_refusals_7 rfl ?_
    refine r_lastO X K h dL_refusals_8 (fun H locs h => ?_)
    refine z_goto (tgt := 15) X dL_refusals_9 (by decide) ?_
    refine z_iconst X dL_refusals_15 ?_
    exact r_iret X hr hlk K h (Nat.le_of_eq (Nat.zero_add _)) (Nat.le_of_eq (Nat.zero_add _)) dL_refusals_16 (Or.inl ⟨rfl, z, w1, rfl, hp⟩)
