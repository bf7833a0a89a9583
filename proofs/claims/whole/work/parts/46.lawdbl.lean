/-! the law's two cases of floating numbers -/
theorem dne_nan {z : UInt64} (h : isNaN64 z = true) : ¬ Op.cmpValue (FP.dcmp z z) .l = 0 := by
  have h0 := isNaN64_iff.mp h
  rw [show (0x7fffffffffffffff : Nat) = 2 ^ 63 - 1 from rfl, Nat.and_two_pow_sub_one_eq_mod] at h0
  have h1 : FP.Core.dIsNaN z = true := (FP.Core.isNaN_bits z).mpr h0
  have h2 : FP.dcmp z z = none := (FP.Core.dcmp_none z z).mpr (Or.inl ((FP.Core.dIsNaN_iff z).mp h1))
  rw [h2]
  decide
theorem alike_cmp {z z' x : UInt64} (h1 : alike64 z x = true) (h2 : alike64 z' x = true) : z' = z ∨ (¬ Op.cmpValue (FP.dcmp z z) .l = 0 ∧ ¬ Op.cmpValue (FP.dcmp z' z') .l = 0) := by
  unfold alike64 at h1 h2
  rw [Bool.or_eq_true, decide_eq_true_eq, Bool.and_eq_true] at h1 h2
  rcases h1 with h1 | h1
  · rcases h2 with h2 | h2
    · exact Or.inl (h2.trans h1.symm)
    · exact Or.inr ⟨dne_nan (h1 ▸ h2.2), dne_nan h2.1⟩
  · rcases h2 with h2 | h2
    · exact Or.inr ⟨dne_nan h1.1, dne_nan (h2 ▸ h1.2)⟩
    · exact Or.inr ⟨dne_nan h1.1, dne_nan h2.1⟩
section
variable {p : Program} {l : Launch} {e : Env} {R : Room} {s : State} {m : MethodId} {args : Array Value} {below : List Frame} {meth : Method} {c : Code} {H : Heap} {locs : List Loc} {cells slots : Nat} {Q : State → Prop}
variable {cc : ByteArray} {own : String} {nL pc : Nat} {ls : Array Slot} {rest : List Value} {G : Gr} {A : Nat → Prop} {a a' : Nat → Nat} {o : Nat} {u v : St} {f : Nat → Int64} {d0 : Drawn}
variable {y : MethodName} {bytes : ByteArray} {maxL n idx : Nat} {ret : Option FieldType} {rm' : Room} {As : List Value} {mc' ms' : Nat}
theorem r_lawCd (hd0 : s.drawn.sameBut d0 lw_cs) (X : CallFix p m c cc nL (s.setDrawn d0) args lw_all own) (K : KK G (s.setDrawn d0)) (g : Gd G A (s.setDrawn d0) (s.setDrawn d0).heap) (h : HW G A s.heap (LWd G a a' o u v f) H locs) {post : UInt64 → Prop}
    (hC : CtD l G y (ws_ y bytes maxL ret) rm' (.ref (a 0) :: As) (WC G a u) mc' ms' (PoDp (WC G a u) post)) (lk : LkV own idx RX9 y bytes maxL ret n) (hrm : rm'.cells = mc' ∧ rm'.slots = ms') (hR : rm'.frames + 1 ≤ R.frames ∧ 8 + (maxL + 11) + rm'.locals ≤ R.locals) (hn : As.length = n) (hls : ls.size = nL) {st : List Value} (hst : st = As.reverse ++ .ref (a 0) :: rest) (hW : (rest.map fun v => v.category).sum ≤ 8) (hdg : decode cc pc = .ok (.invokevirtual idx, 3)) (hb : cells + mc' ≤ R.cells ∧ slots + ms' ≤ R.slots)
    (kk : ∀ (z : UInt64) (H1 : Heap) (locs1 : List Loc) (d' : Drawn), s.drawn.sameBut d' lw_cs → post z → HW G A s.heap (LWd G a a' o u v f) H1 locs1 → W p l e R (s.setDrawn d') m args below meth c H1 locs1 (cells + mc') (slots + ms') Q (F0 m (pc + 3) ls (.double z :: rest))) : W p l e R (s.setDrawn d0) m args below meth c H locs cells slots Q (F0 m pc ls st) := by
  subst hst
  refine va_calldD hd0 (va_runV_D (As := As) (rest := rest) X ((CtD.beside (r := WM G a' v ++ [(o, longE G f)]) (List.Perm.refl _) hC) H.size) (cwV n X.2.2.2.2 lk.1 rfl hrm.1 hrm.2 lk.2 hR) ⟨PreW.blind, va_recv (q0 := 0) (ci := 9) (fs := [.ref (a 1), .ref (a 8), .ref (a 9), zI (sI u 0), zI (sI u 1), zI (sI u 2), .ref (a 23), zI (sI u 3)]) K h.1 rfl rfl, fun U hU hW => ⟨rfl, HW.pre (s := s.setDrawn d0) K g h hU hW⟩⟩ rfl hn hls rfl (lv_room hW) hdg hb) h.2.2.1 (fun q _ hq => h.incl q hq) h.incl (fun r9 u9 t H1 locs1 ht hvm hw hB hz1 hk1 hS d' hd' => ?_)
  obtain ⟨w1, rfl, rfl, hz⟩ := hw
  exact kk r9 H1 locs1 d' hd' hz ⟨by rw [← ht]; exact hB.1, hB.2.2.weaken (fun _ _ _ hq => h.incl _ hq), hS, h.2.2.2⟩
theorem r_lawMd (hd0 : s.drawn.sameBut d0 lw_cs) (X : CallFix p m c cc nL (s.setDrawn d0) args lw_all own) (K : KK G (s.setDrawn d0)) (g : Gd G A (s.setDrawn d0) (s.setDrawn d0).heap) (h : HW G A s.heap (LWd G a a' o u v f) H locs) {post : UInt64 → St → Prop}
    (hC : CtD l G y (ws_ y bytes maxL ret) rm' (.ref (a' 0) :: As) (WM G a' v) mc' ms' (PoD (WM G a') post)) (lk : LkV own idx RX10 y bytes maxL ret n) (hrm : rm'.cells = mc' ∧ rm'.slots = ms') (hR : rm'.frames + 1 ≤ R.frames ∧ 8 + (maxL + 11) + rm'.locals ≤ R.locals) (hn : As.length = n) (hls : ls.size = nL) {st : List Value} (hst : st = As.reverse ++ .ref (a' 0) :: rest) (hW : (rest.map fun v => v.category).sum ≤ 8) (hdg : decode cc pc = .ok (.invokevirtual idx, 3)) (hb : cells + mc' ≤ R.cells ∧ slots + ms' ≤ R.slots)
    (kk : ∀ (z : UInt64) (v' : St) (H1 : Heap) (locs1 : List Loc) (d' : Drawn), s.drawn.sameBut d' lw_cs → post z v' → HW G A s.heap (LWd G a a' o u v' f) H1 locs1 → W p l e R (s.setDrawn d') m args below meth c H1 locs1 (cells + mc') (slots + ms') Q (F0 m (pc + 3) ls (.double z :: rest))) : W p l e R (s.setDrawn d0) m args below meth c H locs cells slots Q (F0 m pc ls st) := by
  subst hst
  obtain ⟨fs, he⟩ := LWd.atM (G := G) (a := a) (a' := a') (o := o) (u := u) (v := v) (f := f)
  refine va_calldD hd0 (va_runV_D (As := As) (rest := rest) X ((CtD.beside (r := WC G a u ++ [(o, longE G f)]) LWd.permM hC) H.size) (cwV n X.2.2.2.2 lk.1 rfl hrm.1 hrm.2 lk.2 hR) ⟨PreW.blind, va_recv K h.1 rfl he, fun U hU hW => ⟨rfl, HW.pre (s := s.setDrawn d0) K g h hU hW⟩⟩ rfl hn hls rfl (lv_room hW) hdg hb) h.2.2.1 (fun q _ hq => h.incl q hq) h.incl (fun r9 u9 t H1 locs1 ht hvm hw hB hz1 hk1 hS d' hd' => ?_)
  obtain ⟨w1, rfl, v', rfl, hz⟩ := hw
  have h9 : HW G A s.heap (WM G a' v' ++ (WC G a u ++ [(o, longE G f)])) H1 locs1 := ⟨by rw [← ht]; exact hB.1, hB.2.2.weaken (fun _ _ _ hq => h.incl _ hq), hS, h.2.2.2⟩
  exact kk r9 v' H1 locs1 d' hd' hz (h9.perm LWd.permM.symm)
theorem r_lawCf (hd0 : s.drawn.sameBut d0 lw_cs) (X : CallFix p m c cc nL (s.setDrawn d0) args lw_all own) (K : KK G (s.setDrawn d0)) (g : Gd G A (s.setDrawn d0) (s.setDrawn d0).heap) (h : HW G A s.heap (LWd G a a' o u v f) H locs) {post : UInt32 → Prop}
    (hC : CtF l G y (ws_ y bytes maxL ret) rm' (.ref (a 0) :: As) (WC G a u) mc' ms' (PoFp (WC G a u) post)) (lk : LkV own idx RX9 y bytes maxL ret n) (hrm : rm'.cells = mc' ∧ rm'.slots = ms') (hR : rm'.frames + 1 ≤ R.frames ∧ 8 + (maxL + 11) + rm'.locals ≤ R.locals) (hn : As.length = n) (hls : ls.size = nL) {st : List Value} (hst : st = As.reverse ++ .ref (a 0) :: rest) (hW : (rest.map fun v => v.category).sum ≤ 8) (hdg : decode cc pc = .ok (.invokevirtual idx, 3)) (hb : cells + mc' ≤ R.cells ∧ slots + ms' ≤ R.slots)
    (kk : ∀ (z : UInt32) (H1 : Heap) (locs1 : List Loc) (d' : Drawn), s.drawn.sameBut d' lw_cs → post z → HW G A s.heap (LWd G a a' o u v f) H1 locs1 → W p l e R (s.setDrawn d') m args below meth c H1 locs1 (cells + mc') (slots + ms') Q (F0 m (pc + 3) ls (.float z :: rest))) : W p l e R (s.setDrawn d0) m args below meth c H locs cells slots Q (F0 m pc ls st) := by
  subst hst
  refine va_callfD hd0 (va_runV_D (As := As) (rest := rest) X ((CtF.beside (r := WM G a' v ++ [(o, longE G f)]) (List.Perm.refl _) hC) H.size) (cwV n X.2.2.2.2 lk.1 rfl hrm.1 hrm.2 lk.2 hR) ⟨PreW.blind, va_recv (q0 := 0) (ci := 9) (fs := [.ref (a 1), .ref (a 8), .ref (a 9), zI (sI u 0), zI (sI u 1), zI (sI u 2), .ref (a 23), zI (sI u 3)]) K h.1 rfl rfl, fun U hU hW => ⟨rfl, HW.pre (s := s.setDrawn d0) K g h hU hW⟩⟩ rfl hn hls rfl (lv_room hW) hdg hb) h.2.2.1 (fun q _ hq => h.incl q hq) h.incl (fun r9 u9 t H1 locs1 ht hvm hw hB hz1 hk1 hS d' hd' => ?_)
  obtain ⟨w1, rfl, rfl, hz⟩ := hw
  exact kk r9 H1 locs1 d' hd' hz ⟨by rw [← ht]; exact hB.1, hB.2.2.weaken (fun _ _ _ hq => h.incl _ hq), hS, h.2.2.2⟩
theorem r_lawMf (hd0 : s.drawn.sameBut d0 lw_cs) (X : CallFix p m c cc nL (s.setDrawn d0) args lw_all own) (K : KK G (s.setDrawn d0)) (g : Gd G A (s.setDrawn d0) (s.setDrawn d0).heap) (h : HW G A s.heap (LWd G a a' o u v f) H locs) {post : UInt32 → St → Prop}
    (hC : CtF l G y (ws_ y bytes maxL ret) rm' (.ref (a' 0) :: As) (WM G a' v) mc' ms' (PoF (WM G a') post)) (lk : LkV own idx RX10 y bytes maxL ret n) (hrm : rm'.cells = mc' ∧ rm'.slots = ms') (hR : rm'.frames + 1 ≤ R.frames ∧ 8 + (maxL + 11) + rm'.locals ≤ R.locals) (hn : As.length = n) (hls : ls.size = nL) {st : List Value} (hst : st = As.reverse ++ .ref (a' 0) :: rest) (hW : (rest.map fun v => v.category).sum ≤ 8) (hdg : decode cc pc = .ok (.invokevirtual idx, 3)) (hb : cells + mc' ≤ R.cells ∧ slots + ms' ≤ R.slots)
    (kk : ∀ (z : UInt32) (v' : St) (H1 : Heap) (locs1 : List Loc) (d' : Drawn), s.drawn.sameBut d' lw_cs → post z v' → HW G A s.heap (LWd G a a' o u v' f) H1 locs1 → W p l e R (s.setDrawn d') m args below meth c H1 locs1 (cells + mc') (slots + ms') Q (F0 m (pc + 3) ls (.float z :: rest))) : W p l e R (s.setDrawn d0) m args below meth c H locs cells slots Q (F0 m pc ls st) := by
  subst hst
  obtain ⟨fs, he⟩ := LWd.atM (G := G) (a := a) (a' := a') (o := o) (u := u) (v := v) (f := f)
  refine va_callfD hd0 (va_runV_D (As := As) (rest := rest) X ((CtF.beside (r := WC G a u ++ [(o, longE G f)]) LWd.permM hC) H.size) (cwV n X.2.2.2.2 lk.1 rfl hrm.1 hrm.2 lk.2 hR) ⟨PreW.blind, va_recv K h.1 rfl he, fun U hU hW => ⟨rfl, HW.pre (s := s.setDrawn d0) K g h hU hW⟩⟩ rfl hn hls rfl (lv_room hW) hdg hb) h.2.2.1 (fun q _ hq => h.incl q hq) h.incl (fun r9 u9 t H1 locs1 ht hvm hw hB hz1 hk1 hS d' hd' => ?_)
  obtain ⟨w1, rfl, v', rfl, hz⟩ := hw
  have h9 : HW G A s.heap (WM G a' v' ++ (WC G a u ++ [(o, longE G f)])) H1 locs1 := ⟨by rw [← ht]; exact hB.1, hB.2.2.weaken (fun _ _ _ hq => h.incl _ hq), hS, h.2.2.2⟩
  exact kk r9 v' H1 locs1 d' hd' hz (h9.perm LWd.permM.symm)
theorem fixD (X : CallFix p m c cc nL s args lw_all own) (d : Drawn) : CallFix p m c cc nL (s.setDrawn d) args lw_all own := ⟨X.1, X.2.1, X.2.2.1, X.2.2.2.1, dr_words X.2.2.2.2 d⟩
theorem kkD (K : KK G s) (d : Drawn) : KK G (s.setDrawn d) := va_K.moved (u := s) (U := s.setDrawn d) (Vm.Alike.refl s.vm) K
theorem gdD (g : Gd G A s s.heap) (d : Drawn) : Gd G A (s.setDrawn d) (s.setDrawn d).heap := g.same (u := s) (U := s.setDrawn d) rfl
end
theorem law_36 {p : Program} {l : Launch} {e : Env} {R : Room} {s : State} {m : MethodId} {args : Array Value} {below : List Frame} {meth : Method} {c : Code} {H : Heap} {locs : List Loc} {cells slots : Nat} {Q : State → Prop} {ls : Array Slot} {G : Gr} {A : Nat → Prop} {a a' : Nat → Nat} {o b kn : Nat} {u v : St} {f : Nat → Int64} {d0 : Drawn} (hd0 : s.drawn.sameBut d0 lw_cs) (hR : 40 ≤ R.frames ∧ 1300 ≤ R.locals) (X : CallFix p m c cL_law 9 s args lw_all RL) (K : KK G s) (g : Gd G A s s.heap) (h : HW G A s.heap (LWd G a a' o u v f) H locs) (hl : lv_has ls 9 [(4, zI (kn : Int)), (0, .ref b), (1, .ref (a 0)), (2, .ref (a' 0)), (3, .ref o)]) (hb : cells ≤ R.cells ∧ slots ≤ R.slots) (N : St → St → Prop) (hw : w_X9_meanLetters (fun z => w_X10_meanLetters (fun z' v' => (∃ x, alike64 z x = true ∧ alike64 z' x = true) ∧ N u v') v) u)
    (kk : ∀ (d : Drawn) (v' : St) (H1 : Heap) (locs1 : List Loc) (ls1 : Array Slot), s.drawn.sameBut d lw_cs → N u v' → lv_has ls1 9 [(4, zI (kn : Int)), (0, .ref b), (1, .ref (a 0)), (2, .ref (a' 0)), (3, .ref o)] → HW G A s.heap (LWd G a a' o u v' f) H1 locs1 → W p l e R (s.setDrawn d) m args below meth c H1 locs1 cells slots Q (F0 m 1398 ls1 [])) : W p l e R (s.setDrawn d0) m args below meth c H locs cells slots Q (F0 m 1288 ls []) := by
  refine z_aload_n (fixD X d0) hl 2 rfl rfl dL_law_1288 ?_
  refine r_lawCd (rest := []) hd0 (fixD X d0) (kkD K d0) (gdD g d0) h (ct_X9_meanLetters u _ hw) lk_L_201 ⟨rfl, rfl⟩ ⟨Nat.le_trans (Nat.le_of_ble_eq_true rfl) hR.1, Nat.le_trans (Nat.le_of_ble_eq_true rfl) hR.2⟩ rfl (lv_size hl) rfl (Nat.le_of_ble_eq_true rfl) dL_law_1289 hb (fun z H locs d1 hd1 hp h => ?_)
  refine lv_dstore (lv' := [(5, .double z), (4, zI (kn : Int)), (0, .ref b), (1, .ref (a 0)), (2, .ref (a' 0)), (3, .ref o)]) X.1 X.2.1 dL_law_1292 hl (by decide) rfl (fun ls hl => ?_)
  refine z_aload_n (fixD X d1) hl 4 rfl rfl dL_law_1294 ?_
  refine r_lawMd (rest := []) hd1 (fixD X d1) (kkD K d1) (gdD g d1) h (ct_X10_meanLetters v _ hp) lk_L_205 ⟨rfl, rfl⟩ ⟨Nat.le_trans (Nat.le_of_ble_eq_true rfl) hR.1, Nat.le_trans (Nat.le_of_ble_eq_true rfl) hR.2⟩ rfl (lv_size hl) rfl (Nat.le_of_ble_eq_true rfl) dL_law_1295 hb (fun z' v' H locs d2 hd2 hq h => ?_)
  obtain ⟨⟨x9, ha1, ha2⟩, hN⟩ := hq
  have hcmp := alike_cmp ha1 ha2
  refine lv_dstore (lv' := [(7, .double z'), (5, .double z), (4, zI (kn : Int)), (0, .ref b), (1, .ref (a 0)), (2, .ref (a' 0)), (3, .ref o)]) X.1 X.2.1 dL_law_1298 hl (by decide) rfl (fun ls hl => ?_)
  refine lv_dload X.1 X.2.1 dL_law_1300 (lv_at hl 1 rfl) ?_
  refine lv_dload X.1 X.2.1 dL_law_1302 (lv_at hl 0 rfl) ?_
  refine lv_dcmp X.1 X.2.1 dL_law_1304 ?_
  refine lv_if_eq (tgt := 1326) X.1 X.2.1 dL_law_1305 (by decide) (fun _ => ?_) (fun c1 => ?_)
  · refine z_goto (tgt := 1398) (fixD X d2) dL_law_1326 (by decide) ?_
    exact kk _ _ H locs ls hd2 hN (lv_sub hl [2, 3, 4, 5, 6] rfl) h
  · refine lv_dload X.1 X.2.1 dL_law_1308 (lv_at hl 1 rfl) ?_
    refine lv_dload X.1 X.2.1 dL_law_1310 (lv_at hl 1 rfl) ?_
    refine lv_dcmp X.1 X.2.1 dL_law_1312 ?_
    refine lv_if_eq (tgt := 1324) X.1 X.2.1 dL_law_1313 (by decide) (fun c2 => ?_) (fun _ => ?_)
    · rcases hcmp with e1 | e1
      · rw [e1] at c1
        exact absurd c2 c1
      · exact absurd c2 e1.1
    · refine lv_dload X.1 X.2.1 dL_law_1316 (lv_at hl 0 rfl) ?_
      refine lv_dload X.1 X.2.1 dL_law_1318 (lv_at hl 0 rfl) ?_
      refine lv_dcmp X.1 X.2.1 dL_law_1320 ?_
      refine lv_if_ne (tgt := 1326) X.1 X.2.1 dL_law_1321 (by decide) (fun _ => ?_) (fun c3 => ?_)
      · refine z_goto (tgt := 1398) (fixD X d2) dL_law_1326 (by decide) ?_
        exact kk _ _ H locs ls hd2 hN (lv_sub hl [2, 3, 4, 5, 6] rfl) h
      · rcases hcmp with e1 | e1
        · rw [e1] at c1 c3
          exact absurd c3 c1
        · exact absurd c3 e1.2
theorem law_37 {p : Program} {l : Launch} {e : Env} {R : Room} {s : State} {m : MethodId} {args : Array Value} {below : List Frame} {meth : Method} {c : Code} {H : Heap} {locs : List Loc} {cells slots : Nat} {Q : State → Prop} {ls : Array Slot} {G : Gr} {A : Nat → Prop} {a a' : Nat → Nat} {o b kn : Nat} {u v : St} {f : Nat → Int64} {d0 : Drawn} (hd0 : s.drawn.sameBut d0 lw_cs) (hR : 40 ≤ R.frames ∧ 1300 ≤ R.locals) (X : CallFix p m c cL_law 9 s args lw_all RL) (K : KK G s) (g : Gd G A s s.heap) (h : HW G A s.heap (LWd G a a' o u v f) H locs) (hl : lv_has ls 9 [(4, zI (kn : Int)), (0, .ref b), (1, .ref (a 0)), (2, .ref (a' 0)), (3, .ref o)]) (hb : cells ≤ R.cells ∧ slots ≤ R.slots) (N : St → St → Prop) (hw : w_X9_caretShare (fun z => w_X10_caretShare (fun z' v' => (∃ x, ∀ r r' : UInt64, alike64 r (FP.f2d z) = true → alike64 r' (FP.f2d z') = true → alike64 r x = true ∧ alike64 r' x = true) ∧ N u v') v) u)
    (kk : ∀ (d : Drawn) (v' : St) (H1 : Heap) (locs1 : List Loc) (ls1 : Array Slot), s.drawn.sameBut d lw_cs → N u v' → lv_has ls1 9 [(4, zI (kn : Int)), (0, .ref b), (1, .ref (a 0)), (2, .ref (a' 0)), (3, .ref o)] → HW G A s.heap (LWd G a a' o u v' f) H1 locs1 → W p l e R (s.setDrawn d) m args below meth c H1 locs1 cells slots Q (F0 m 1398 ls1 [])) : W p l e R (s.setDrawn d0) m args below meth c H locs cells slots Q (F0 m 1329 ls []) := by
  refine z_aload_n (fixD X d0) hl 2 rfl rfl dL_law_1329 ?_
  refine r_lawCf (rest := []) hd0 (fixD X d0) (kkD K d0) (gdD g d0) h (ct_X9_caretShare u _ hw) lk_L_206 ⟨rfl, rfl⟩ ⟨Nat.le_trans (Nat.le_of_ble_eq_true rfl) hR.1, Nat.le_trans (Nat.le_of_ble_eq_true rfl) hR.2⟩ rfl (lv_size hl) rfl (Nat.le_of_ble_eq_true rfl) dL_law_1330 hb (fun z H locs d1 hd1 hp h => ?_)
  refine lv_f2d_any hd1 lw_bits X.1 X.2.1 dL_law_1333 (fun r d2 hal hd2 => ?_)
  refine lv_dstore (lv' := [(5, .double r), (4, zI (kn : Int)), (0, .ref b), (1, .ref (a 0)), (2, .ref (a' 0)), (3, .ref o)]) X.1 X.2.1 dL_law_1334 hl (by decide) rfl (fun ls hl => ?_)
  refine z_aload_n (fixD X d2) hl 4 rfl rfl dL_law_1336 ?_
  refine r_lawMf (rest := []) hd2 (fixD X d2) (kkD K d2) (gdD g d2) h (ct_X10_caretShare v _ hp) lk_L_210 ⟨rfl, rfl⟩ ⟨Nat.le_trans (Nat.le_of_ble_eq_true rfl) hR.1, Nat.le_trans (Nat.le_of_ble_eq_true rfl) hR.2⟩ rfl (lv_size hl) rfl (Nat.le_of_ble_eq_true rfl) dL_law_1337 hb (fun z' v' H locs d3 hd3 hq h => ?_)
  refine lv_f2d_any hd3 lw_bits X.1 X.2.1 dL_law_1340 (fun r' d4 hal' hd4 => ?_)
  obtain ⟨⟨x9, hx9⟩, hN⟩ := hq
  have hcmp := alike_cmp (hx9 r r' hal hal').1 (hx9 r r' hal hal').2
  refine lv_dstore (lv' := [(7, .double r'), (5, .double r), (4, zI (kn : Int)), (0, .ref b), (1, .ref (a 0)), (2, .ref (a' 0)), (3, .ref o)]) X.1 X.2.1 dL_law_1341 hl (by decide) rfl (fun ls hl => ?_)
  refine lv_dload X.1 X.2.1 dL_law_1343 (lv_at hl 1 rfl) ?_
  refine lv_dload X.1 X.2.1 dL_law_1345 (lv_at hl 0 rfl) ?_
  refine lv_dcmp X.1 X.2.1 dL_law_1347 ?_
  refine lv_if_eq (tgt := 1369) X.1 X.2.1 dL_law_1348 (by decide) (fun _ => ?_) (fun c1 => ?_)
  · refine z_goto (tgt := 1398) (fixD X d4) dL_law_1369 (by decide) ?_
    exact kk _ _ H locs ls hd4 hN (lv_sub hl [2, 3, 4, 5, 6] rfl) h
  · refine lv_dload X.1 X.2.1 dL_law_1351 (lv_at hl 1 rfl) ?_
    refine lv_dload X.1 X.2.1 dL_law_1353 (lv_at hl 1 rfl) ?_
    refine lv_dcmp X.1 X.2.1 dL_law_1355 ?_
    refine lv_if_eq (tgt := 1367) X.1 X.2.1 dL_law_1356 (by decide) (fun c2 => ?_) (fun _ => ?_)
    · rcases hcmp with e1 | e1
      · rw [e1] at c1
        exact absurd c2 c1
      · exact absurd c2 e1.1
    · refine lv_dload X.1 X.2.1 dL_law_1359 (lv_at hl 0 rfl) ?_
      refine lv_dload X.1 X.2.1 dL_law_1361 (lv_at hl 0 rfl) ?_
      refine lv_dcmp X.1 X.2.1 dL_law_1363 ?_
      refine lv_if_ne (tgt := 1369) X.1 X.2.1 dL_law_1364 (by decide) (fun _ => ?_) (fun c3 => ?_)
      · refine z_goto (tgt := 1398) (fixD X d4) dL_law_1369 (by decide) ?_
        exact kk _ _ H locs ls hd4 hN (lv_sub hl [2, 3, 4, 5, 6] rfl) h
      · rcases hcmp with e1 | e1
        · rw [e1] at c1 c3
          exact absurd c3 c1
        · exact absurd c3 e1.2
