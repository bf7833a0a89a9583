/-! the law's cases, one by one -/
theorem lg_cmp_rf (x : Int64) : lg_cmp x x = 0 := by simp [lg_cmp]
section
variable {p : Program} {l : Launch} {e : Env} {R : Room} {s : State} {m : MethodId} {args : Array Value} {below : List Frame} {meth : Method} {c : Code} {H : Heap} {locs : List Loc} {cells slots : Nat} {Q : State → Prop}
variable {cc : ByteArray} {own : String} {nL pc : Nat} {ls : Array Slot} {rest : List Value} {G : Gr} {A : Nat → Prop} {a a' : Nat → Nat} {o : Nat} {u v : St} {f : Nat → Int64}
theorem r_flag (X : CallFix p m c cc nL s args lw_all own) {x : Int32} (hd0 : decode cc pc = .ok (.ifCond .eq 7, 3)) (hd1 : decode cc (pc + 3) = .ok (.iconst 1, 1)) (hd2 : decode cc (pc + 4) = .ok (.goto 4, 3)) (hd3 : decode cc (pc + 7) = .ok (.iconst 0, 1)) (kk : W p l e R s m args below meth c H locs cells slots Q (F0 m (pc + 8) ls (zI (if x.toInt = 0 then 0 else 1) :: rest))) : W p l e R s m args below meth c H locs cells slots Q (F0 m pc ls (zI x.toInt :: rest)) := by
  have e2 : zI x.toInt = .int x := congrArg Value.int (Int32.ofInt_toInt _)
  rw [e2]
  refine lv_if_eq (tgt := pc + 7) X.1 X.2.1 hd0 (by omega) (fun c1 => ?_) (fun c1 => ?_)
  · subst c1
    exact z_iconst X hd3 kk
  · refine z_iconst X hd1 ?_
    refine z_goto (tgt := pc + 8) X hd2 (by omega) ?_
    have e3 : ¬ x.toInt = 0 := fun h0 => c1 (Int32.toInt_inj.mp (show x.toInt = (0 : Int32).toInt from h0))
    rw [if_neg e3] at kk
    exact kk
end
theorem lkW_add : LkW RL 67 yL_add cL_add 4 (some .int) [(0, 9, 12, 13)] 3 := LkW.of (lwa_all (L := [Cond.methodLink RL 67 yL_add]) (by decide +kernel) _ List.mem_cons_self) (lwa_all (L := [Cond.static yL_add]) (by decide +kernel) _ List.mem_cons_self) (lwa_all (L := [Cond.initialized RL]) (by decide +kernel) _ List.mem_cons_self) qw_L_add (by decide +kernel)
theorem lkW_append : LkW RL 103 yL_append cL_append 8 (some .int) [(0, 16, 19, 26)] 7 := LkW.of (lwa_all (L := [Cond.methodLink RL 103 yL_append]) (by decide +kernel) _ List.mem_cons_self) (lwa_all (L := [Cond.static yL_append]) (by decide +kernel) _ List.mem_cons_self) (lwa_all (L := [Cond.initialized RL]) (by decide +kernel) _ List.mem_cons_self) qw_L_append (by decide +kernel)
theorem lkW_count : LkW RL 176 yL_count cL_count 4 (some .int) [(0, 9, 12, 13)] 3 := LkW.of (lwa_all (L := [Cond.methodLink RL 176 yL_count]) (by decide +kernel) _ List.mem_cons_self) (lwa_all (L := [Cond.static yL_count]) (by decide +kernel) _ List.mem_cons_self) (lwa_all (L := [Cond.initialized RL]) (by decide +kernel) _ List.mem_cons_self) qw_L_count (by decide +kernel)
theorem lkW_fill : LkW RL 111 yL_fill cL_fill 3 (some .int) [(0, 8, 11, 13)] 2 := LkW.of (lwa_all (L := [Cond.methodLink RL 111 yL_fill]) (by decide +kernel) _ List.mem_cons_self) (lwa_all (L := [Cond.static yL_fill]) (by decide +kernel) _ List.mem_cons_self) (lwa_all (L := [Cond.initialized RL]) (by decide +kernel) _ List.mem_cons_self) qw_L_fill (by decide +kernel)
theorem lkW_find : LkW RL 87 yL_find cL_find 5 (some .int) [(0, 10, 13, 13)] 4 := LkW.of (lwa_all (L := [Cond.methodLink RL 87 yL_find]) (by decide +kernel) _ List.mem_cons_self) (lwa_all (L := [Cond.static yL_find]) (by decide +kernel) _ List.mem_cons_self) (lwa_all (L := [Cond.initialized RL]) (by decide +kernel) _ List.mem_cons_self) qw_L_find (by decide +kernel)
theorem lkW_indexOf : LkW RL 170 yL_indexOf cL_indexOf 4 (some .int) [(0, 9, 12, 13)] 3 := LkW.of (lwa_all (L := [Cond.methodLink RL 170 yL_indexOf]) (by decide +kernel) _ List.mem_cons_self) (lwa_all (L := [Cond.static yL_indexOf]) (by decide +kernel) _ List.mem_cons_self) (lwa_all (L := [Cond.initialized RL]) (by decide +kernel) _ List.mem_cons_self) qw_L_indexOf (by decide +kernel)
theorem lkW_lastIndexOf : LkW RL 173 yL_lastIndexOf cL_lastIndexOf 4 (some .int) [(0, 9, 12, 13)] 3 := LkW.of (lwa_all (L := [Cond.methodLink RL 173 yL_lastIndexOf]) (by decide +kernel) _ List.mem_cons_self) (lwa_all (L := [Cond.static yL_lastIndexOf]) (by decide +kernel) _ List.mem_cons_self) (lwa_all (L := [Cond.initialized RL]) (by decide +kernel) _ List.mem_cons_self) qw_L_lastIndexOf (by decide +kernel)
theorem lkW_refusals : LkW RL 194 yL_refusals cL_refusals 4 (some .int) [(0, 9, 12, 13)] 3 := LkW.of (lwa_all (L := [Cond.methodLink RL 194 yL_refusals]) (by decide +kernel) _ List.mem_cons_self) (lwa_all (L := [Cond.static yL_refusals]) (by decide +kernel) _ List.mem_cons_self) (lwa_all (L := [Cond.initialized RL]) (by decide +kernel) _ List.mem_cons_self) qw_L_refusals (by decide +kernel)
theorem lkW_run : LkW RL 115 yL_run cL_run 3 (some .int) [(0, 8, 11, 13)] 2 := LkW.of (lwa_all (L := [Cond.methodLink RL 115 yL_run]) (by decide +kernel) _ List.mem_cons_self) (lwa_all (L := [Cond.static yL_run]) (by decide +kernel) _ List.mem_cons_self) (lwa_all (L := [Cond.initialized RL]) (by decide +kernel) _ List.mem_cons_self) qw_L_run (by decide +kernel)
theorem lkW_set : LkW RL 76 yL_set cL_set 4 (some .int) [(0, 9, 12, 13)] 3 := LkW.of (lwa_all (L := [Cond.methodLink RL 76 yL_set]) (by decide +kernel) _ List.mem_cons_self) (lwa_all (L := [Cond.static yL_set]) (by decide +kernel) _ List.mem_cons_self) (lwa_all (L := [Cond.initialized RL]) (by decide +kernel) _ List.mem_cons_self) qw_L_set (by decide +kernel)
theorem lkW_wordAt : LkW RL 167 yL_wordAt cL_wordAt 4 (some .int) [(0, 9, 12, 38)] 3 := LkW.of (lwa_all (L := [Cond.methodLink RL 167 yL_wordAt]) (by decide +kernel) _ List.mem_cons_self) (lwa_all (L := [Cond.static yL_wordAt]) (by decide +kernel) _ List.mem_cons_self) (lwa_all (L := [Cond.initialized RL]) (by decide +kernel) _ List.mem_cons_self) qw_L_wordAt (by decide +kernel)
theorem lkW_writtenAt : LkW RL 191 yL_writtenAt cL_writtenAt 4 (some .int) [(0, 9, 12, 38)] 3 := LkW.of (lwa_all (L := [Cond.methodLink RL 191 yL_writtenAt]) (by decide +kernel) _ List.mem_cons_self) (lwa_all (L := [Cond.static yL_writtenAt]) (by decide +kernel) _ List.mem_cons_self) (lwa_all (L := [Cond.initialized RL]) (by decide +kernel) _ List.mem_cons_self) qw_L_writtenAt (by decide +kernel)
theorem law_0 {p : Program} {l : Launch} {e : Env} {R : Room} {s : State} {m : MethodId} {args : Array Value} {below : List Frame} {meth : Method} {c : Code} {H : Heap} {locs : List Loc} {cells slots : Nat} {Q : State → Prop} {ls : Array Slot} {G : Gr} {A : Nat → Prop} {a a' : Nat → Nat} {o b L kn : Nat} {u v : St} {f : Nat → Int64} {xs : Nat → Int32} (hst : l.stackTraces = false) (hR : 40 ≤ R.frames ∧ 1300 ≤ R.locals) (X : CallFix p m c cL_law 9 s args lw_all RL) (K : KK G s) (g : Gd G A s s.heap) (hX : va_X b L xs s s.heap) (hbl : b < s.heap.size) (hbA : ¬ A b) (hL : L ≤ 3072) (hkn : kn + 6 ≤ L) (h : HW G A s.heap (LWd G a a' o u v f) H locs) (hl : lv_has ls 9 [(4, zI (kn : Int)), (0, .ref b), (1, .ref (a 0)), (2, .ref (a' 0)), (3, .ref o)]) (hb : cells ≤ R.cells ∧ slots ≤ R.slots) (N : St → St → Prop) (hw : w_X9_next (fun z u' => w_X10_next (fun z' v' => z' = z ∧ N u' v') v) G u)
    (kk : ∀ (u' v' : St) (f' : Nat → Int64) (H1 : Heap) (locs1 : List Loc) (ls1 : Array Slot), N u' v' → lv_has ls1 9 [(4, zI (kn : Int)), (0, .ref b), (1, .ref (a 0)), (2, .ref (a' 0)), (3, .ref o)] → HW G A s.heap (LWd G a a' o u' v' f') H1 locs1 → W p l e R s m args below meth c H1 locs1 (cells) (slots) Q (F0 m 1398 ls1 [])) : W p l e R s m args below meth c H locs cells slots Q (F0 m 216 ls []) := by
  refine z_aload_n X hl 2 rfl rfl dL_law_216 ?_
  refine r_lawC (rest := []) X K g h (ct_X9_next u  _ hw) lk_L_59 ⟨rfl, rfl⟩ ⟨Nat.le_trans (Nat.le_of_ble_eq_true rfl) hR.1, Nat.le_trans (Nat.le_of_ble_eq_true rfl) hR.2⟩ rfl (lv_size hl) rfl (Nat.le_of_ble_eq_true rfl) dL_law_217 hb (fun z u' H locs hp h => ?_)
  refine z_aload_n X hl 3 rfl rfl dL_law_220 ?_
  refine r_lawM (rest := [zI z]) X K g h (ct_X10_next v  _ hp) lk_L_62 ⟨rfl, rfl⟩ ⟨Nat.le_trans (Nat.le_of_ble_eq_true rfl) hR.1, Nat.le_trans (Nat.le_of_ble_eq_true rfl) hR.2⟩ rfl (lv_size hl) rfl (Nat.le_of_ble_eq_true rfl) dL_law_221 hb (fun z' v' H locs hq h => ?_)
  obtain ⟨rfl, hN⟩ := hq
  refine lv_icmp_eq (tgt := 1398) X.1 X.2.1 dL_law_224 (by decide) (fun _ => ?_) (fun h0 => absurd rfl h0)
  exact kk _ _ _ H locs ls hN hl h
theorem law_1 {p : Program} {l : Launch} {e : Env} {R : Room} {s : State} {m : MethodId} {args : Array Value} {below : List Frame} {meth : Method} {c : Code} {H : Heap} {locs : List Loc} {cells slots : Nat} {Q : State → Prop} {ls : Array Slot} {G : Gr} {A : Nat → Prop} {a a' : Nat → Nat} {o b L kn : Nat} {u v : St} {f : Nat → Int64} {xs : Nat → Int32} (hst : l.stackTraces = false) (hR : 40 ≤ R.frames ∧ 1300 ≤ R.locals) (X : CallFix p m c cL_law 9 s args lw_all RL) (K : KK G s) (g : Gd G A s s.heap) (hX : va_X b L xs s s.heap) (hbl : b < s.heap.size) (hbA : ¬ A b) (hL : L ≤ 3072) (hkn : kn + 6 ≤ L) (h : HW G A s.heap (LWd G a a' o u v f) H locs) (hl : lv_has ls 9 [(4, zI (kn : Int)), (0, .ref b), (1, .ref (a 0)), (2, .ref (a' 0)), (3, .ref o)]) (hb : cells ≤ R.cells ∧ slots ≤ R.slots) (N : St → St → Prop) (hw : w_X9_previous (fun z u' => w_X10_previous (fun z' v' => z' = z ∧ N u' v') v) G u)
    (kk : ∀ (u' v' : St) (f' : Nat → Int64) (H1 : Heap) (locs1 : List Loc) (ls1 : Array Slot), N u' v' → lv_has ls1 9 [(4, zI (kn : Int)), (0, .ref b), (1, .ref (a 0)), (2, .ref (a' 0)), (3, .ref o)] → HW G A s.heap (LWd G a a' o u' v' f') H1 locs1 → W p l e R s m args below meth c H1 locs1 (cells) (slots) Q (F0 m 1398 ls1 [])) : W p l e R s m args below meth c H locs cells slots Q (F0 m 229 ls []) := by
  refine z_aload_n X hl 2 rfl rfl dL_law_229 ?_
  refine r_lawC (rest := []) X K g h (ct_X9_previous u  _ hw) lk_L_63 ⟨rfl, rfl⟩ ⟨Nat.le_trans (Nat.le_of_ble_eq_true rfl) hR.1, Nat.le_trans (Nat.le_of_ble_eq_true rfl) hR.2⟩ rfl (lv_size hl) rfl (Nat.le_of_ble_eq_true rfl) dL_law_230 hb (fun z u' H locs hp h => ?_)
  refine z_aload_n X hl 3 rfl rfl dL_law_233 ?_
  refine r_lawM (rest := [zI z]) X K g h (ct_X10_previous v  _ hp) lk_L_66 ⟨rfl, rfl⟩ ⟨Nat.le_trans (Nat.le_of_ble_eq_true rfl) hR.1, Nat.le_trans (Nat.le_of_ble_eq_true rfl) hR.2⟩ rfl (lv_size hl) rfl (Nat.le_of_ble_eq_true rfl) dL_law_234 hb (fun z' v' H locs hq h => ?_)
  obtain ⟨rfl, hN⟩ := hq
  refine lv_icmp_eq (tgt := 1398) X.1 X.2.1 dL_law_237 (by decide) (fun _ => ?_) (fun h0 => absurd rfl h0)
  exact kk _ _ _ H locs ls hN hl h
theorem law_2 {p : Program} {l : Launch} {e : Env} {R : Room} {s : State} {m : MethodId} {args : Array Value} {below : List Frame} {meth : Method} {c : Code} {H : Heap} {locs : List Loc} {cells slots : Nat} {Q : State → Prop} {ls : Array Slot} {G : Gr} {A : Nat → Prop} {a a' : Nat → Nat} {o b L kn : Nat} {u v : St} {f : Nat → Int64} {xs : Nat → Int32} {mc ms : Nat} (hst : l.stackTraces = false) (hR : 40 ≤ R.frames ∧ 1300 ≤ R.locals) (X : CallFix p m c cL_law 9 s args lw_all RL) (K : KK G s) (g : Gd G A s s.heap) (hX : va_X b L xs s s.heap) (hbl : b < s.heap.size) (hbA : ¬ A b) (hL : L ≤ 3072) (hkn : kn + 6 ≤ L) (h : HW G A s.heap (LWd G a a' o u v f) H locs) (hl : lv_has ls 9 [(4, zI (kn : Int)), (0, .ref b), (1, .ref (a 0)), (2, .ref (a' 0)), (3, .ref o)]) (hb : cells + mc ≤ R.cells ∧ slots + ms ≤ R.slots) (N : St → St → Prop) (hw : w_X9_add (fun z u' => w_X10_add (fun z' v' => w_X10_thrown (fun t => t = 0 ∧ z' = z ∧ N u' v') v') v (xs (kn + 1)).toInt) (fun u' => w_X10_add (fun z' v' => w_X10_thrown (fun t => t = 1 ∧ N u' v') v') v (xs (kn + 1)).toInt) mc ms G u (xs (kn + 1)).toInt)
    (kk : ∀ (u' v' : St) (f' : Nat → Int64) (H1 : Heap) (locs1 : List Loc) (ls1 : Array Slot), N u' v' → lv_has ls1 9 [(4, zI (kn : Int)), (0, .ref b), (1, .ref (a 0)), (2, .ref (a' 0)), (3, .ref o)] → HW G A s.heap (LWd G a a' o u' v' f') H1 locs1 → W p l e R s m args below meth c H1 locs1 (cells + mc) (slots + ms) Q (F0 m 1398 ls1 [])) : W p l e R s m args below meth c H locs cells slots Q (F0 m 242 ls []) := by
  refine z_aload_n X hl 2 rfl rfl dL_law_242 ?_
  refine z_aload_n X hl 1 rfl rfl dL_law_243 ?_
  refine z_iload X hl 0 rfl dL_law_244 ?_
  refine z_iconst X dL_law_246 ?_
  refine z_iadd X dL_law_247 ?_
  refine r_scr (j := kn + 1) X h hX hbl hbA (by omega) (by omega) hL dL_law_248 ?_
  refine z_aload_n X hl 4 rfl rfl dL_law_249 ?_
  refine r_lawW (rest := []) X K g h (ct_L_add hst mc ms u ((xs (kn + 1)).toInt) _ _ hw) lkW_add ⟨rfl, rfl⟩ ⟨Nat.le_trans (Nat.le_of_ble_eq_true rfl) hR.1, Nat.le_trans (Nat.le_of_ble_eq_true rfl) hR.2⟩ rfl (lv_size hl) rfl (Nat.le_of_ble_eq_true rfl) dL_law_250 hb (fun z w1 H locs hp h => ?_) (fun w1 H locs hp h => ?_)
  · obtain ⟨u', rfl, hp⟩ := hp
    have h : HW G A s.heap (LWd G a a' o u' v (vp_updL f 0 (Int32.ofInt z).toInt64)) H locs := h
    refine z_istore (i := 5) (lv' := [(5, zI 0), (4, zI (kn : Int)), (0, .ref b), (1, .ref (a 0)), (2, .ref (a' 0)), (3, .ref o)]) X hl (by decide) dL_law_253 rfl (fun ls hl => ?_)
    refine z_aload_n X hl 4 rfl rfl dL_law_255 ?_
    refine z_aload_n X hl 2 rfl rfl dL_law_256 ?_
    refine z_iload X hl 1 rfl dL_law_257 ?_
    refine z_iconst X dL_law_259 ?_
    refine z_iadd X dL_law_260 ?_
    refine r_scr (j := kn + 1) X h hX hbl hbA (by omega) (by omega) hL dL_law_261 ?_
    refine r_lawM (rest := []) X K g h (ct_X10_add v ((xs (kn + 1)).toInt) _ hp) lk_L_72 ⟨rfl, rfl⟩ ⟨Nat.le_trans (Nat.le_of_ble_eq_true rfl) hR.1, Nat.le_trans (Nat.le_of_ble_eq_true rfl) hR.2⟩ rfl (lv_size hl) rfl (Nat.le_of_ble_eq_true rfl) dL_law_262 hb (fun z' v' H locs hq h => ?_)
    refine z_istore (i := 6) (lv' := [(6, zI z'), (5, zI 0), (4, zI (kn : Int)), (0, .ref b), (1, .ref (a 0)), (2, .ref (a' 0)), (3, .ref o)]) X hl (by decide) dL_law_265 rfl (fun ls hl => ?_)
    refine z_aload_n X hl 5 rfl rfl dL_law_267 ?_
    refine r_lawMp (rest := []) X K g h (ct_X10_thrown v' _ hq) lk_L_73 ⟨rfl, rfl⟩ ⟨Nat.le_trans (Nat.le_of_ble_eq_true rfl) hR.1, Nat.le_trans (Nat.le_of_ble_eq_true rfl) hR.2⟩ rfl (lv_size hl) rfl (Nat.le_of_ble_eq_true rfl) dL_law_268 hb (fun t H locs ht h => ?_)
    obtain ⟨rfl, rfl, hN⟩ := ht
    refine z_iload X hl 1 rfl dL_law_271 ?_
    refine lv_icmp_eq (tgt := 278) X.1 X.2.1 dL_law_273 (by decide) (fun _ => ?_) (fun h0 => absurd rfl h0)
    refine z_iload X hl 1 rfl dL_law_278 ?_
    refine lv_if_ne (tgt := 295) X.1 X.2.1 dL_law_280 (by decide) (fun h0 => absurd rfl h0) (fun _ => ?_)
    refine z_aload_n X hl 6 rfl rfl dL_law_283 ?_
    refine z_iconst X dL_law_284 ?_
    refine r_lald X K h dL_law_285 ?_
    refine z_iload X hl 0 rfl dL_law_286 ?_
    refine lv_i2l X.1 X.2.1 dL_law_288 rfl ?_
    refine W.lcmp X.1 X.2.1 dL_law_289 ?_
    rw [show vp_updL f 0 (Int32.ofInt z').toInt64 0 = (Int32.ofInt z').toInt64 from rfl, lg_cmp_rf]
    refine lv_if_eq (tgt := 295) X.1 X.2.1 dL_law_290 (by decide) (fun _ => ?_) (fun h0 => absurd rfl h0)
    refine z_goto (tgt := 1398) X dL_law_295 (by decide) ?_
    exact kk _ _ _ H locs ls hN (lv_sub hl [2, 3, 4, 5, 6] rfl) h
  · obtain ⟨u', rfl, hp⟩ := hp
    have h : HW G A s.heap (LWd G a a' o u' v f) H locs := h
    refine z_istore (i := 5) (lv' := [(5, zI 1), (4, zI (kn : Int)), (0, .ref b), (1, .ref (a 0)), (2, .ref (a' 0)), (3, .ref o)]) X hl (by decide) dL_law_253 rfl (fun ls hl => ?_)
    refine z_aload_n X hl 4 rfl rfl dL_law_255 ?_
    refine z_aload_n X hl 2 rfl rfl dL_law_256 ?_
    refine z_iload X hl 1 rfl dL_law_257 ?_
    refine z_iconst X dL_law_259 ?_
    refine z_iadd X dL_law_260 ?_
    refine r_scr (j := kn + 1) X h hX hbl hbA (by omega) (by omega) hL dL_law_261 ?_
    refine r_lawM (rest := []) X K g h (ct_X10_add v ((xs (kn + 1)).toInt) _ hp) lk_L_72 ⟨rfl, rfl⟩ ⟨Nat.le_trans (Nat.le_of_ble_eq_true rfl) hR.1, Nat.le_trans (Nat.le_of_ble_eq_true rfl) hR.2⟩ rfl (lv_size hl) rfl (Nat.le_of_ble_eq_true rfl) dL_law_262 hb (fun z' v' H locs hq h => ?_)
    refine z_istore (i := 6) (lv' := [(6, zI z'), (5, zI 1), (4, zI (kn : Int)), (0, .ref b), (1, .ref (a 0)), (2, .ref (a' 0)), (3, .ref o)]) X hl (by decide) dL_law_265 rfl (fun ls hl => ?_)
    refine z_aload_n X hl 5 rfl rfl dL_law_267 ?_
    refine r_lawMp (rest := []) X K g h (ct_X10_thrown v' _ hq) lk_L_73 ⟨rfl, rfl⟩ ⟨Nat.le_trans (Nat.le_of_ble_eq_true rfl) hR.1, Nat.le_trans (Nat.le_of_ble_eq_true rfl) hR.2⟩ rfl (lv_size hl) rfl (Nat.le_of_ble_eq_true rfl) dL_law_268 hb (fun t H locs ht h => ?_)
    obtain ⟨rfl, hN⟩ := ht
    refine z_iload X hl 1 rfl dL_law_271 ?_
    refine lv_icmp_eq (tgt := 278) X.1 X.2.1 dL_law_273 (by decide) (fun _ => ?_) (fun h0 => absurd rfl h0)
    refine z_iload X hl 1 rfl dL_law_278 ?_
    refine lv_if_ne (tgt := 295) X.1 X.2.1 dL_law_280 (by decide) (fun _ => ?_) (fun h0 => absurd h0 (by decide))
    refine z_goto (tgt := 1398) X dL_law_295 (by decide) ?_
    exact kk _ _ _ H locs ls hN (lv_sub hl [2, 3, 4, 5, 6] rfl) h
theorem law_3 {p : Program} {l : Launch} {e : Env} {R : Room} {s : State} {m : MethodId} {args : Array Value} {below : List Frame} {meth : Method} {c : Code} {H : Heap} {locs : List Loc} {cells slots : Nat} {Q : State → Prop} {ls : Array Slot} {G : Gr} {A : Nat → Prop} {a a' : Nat → Nat} {o b L kn : Nat} {u v : St} {f : Nat → Int64} {xs : Nat → Int32} {mc ms : Nat} (hst : l.stackTraces = false) (hR : 40 ≤ R.frames ∧ 1300 ≤ R.locals) (X : CallFix p m c cL_law 9 s args lw_all RL) (K : KK G s) (g : Gd G A s s.heap) (hX : va_X b L xs s s.heap) (hbl : b < s.heap.size) (hbA : ¬ A b) (hL : L ≤ 3072) (hkn : kn + 6 ≤ L) (h : HW G A s.heap (LWd G a a' o u v f) H locs) (hl : lv_has ls 9 [(4, zI (kn : Int)), (0, .ref b), (1, .ref (a 0)), (2, .ref (a' 0)), (3, .ref o)]) (hb : cells + mc ≤ R.cells ∧ slots + ms ≤ R.slots) (N : St → St → Prop) (hw : w_X9_set (fun z u' => w_X10_set (fun z' v' => w_X10_thrown (fun t => t = 0 ∧ z' = z ∧ N u' v') v') v (xs (kn + 1)).toInt) (fun u' => w_X10_set (fun z' v' => w_X10_thrown (fun t => t = 1 ∧ N u' v') v') v (xs (kn + 1)).toInt) mc ms G u (xs (kn + 1)).toInt)
    (kk : ∀ (u' v' : St) (f' : Nat → Int64) (H1 : Heap) (locs1 : List Loc) (ls1 : Array Slot), N u' v' → lv_has ls1 9 [(4, zI (kn : Int)), (0, .ref b), (1, .ref (a 0)), (2, .ref (a' 0)), (3, .ref o)] → HW G A s.heap (LWd G a a' o u' v' f') H1 locs1 → W p l e R s m args below meth c H1 locs1 (cells + mc) (slots + ms) Q (F0 m 1398 ls1 [])) : W p l e R s m args below meth c H locs cells slots Q (F0 m 298 ls []) := by
  refine z_aload_n X hl 2 rfl rfl dL_law_298 ?_
  refine z_aload_n X hl 1 rfl rfl dL_law_299 ?_
  refine z_iload X hl 0 rfl dL_law_300 ?_
  refine z_iconst X dL_law_302 ?_
  refine z_iadd X dL_law_303 ?_
  refine r_scr (j := kn + 1) X h hX hbl hbA (by omega) (by omega) hL dL_law_304 ?_
  refine z_aload_n X hl 4 rfl rfl dL_law_305 ?_
  refine r_lawW (rest := []) X K g h (ct_L_set hst mc ms u ((xs (kn + 1)).toInt) _ _ hw) lkW_set ⟨rfl, rfl⟩ ⟨Nat.le_trans (Nat.le_of_ble_eq_true rfl) hR.1, Nat.le_trans (Nat.le_of_ble_eq_true rfl) hR.2⟩ rfl (lv_size hl) rfl (Nat.le_of_ble_eq_true rfl) dL_law_306 hb (fun z w1 H locs hp h => ?_) (fun w1 H locs hp h => ?_)
  · obtain ⟨u', rfl, hp⟩ := hp
    have h : HW G A s.heap (LWd G a a' o u' v (vp_updL f 0 (Int32.ofInt z).toInt64)) H locs := h
    refine z_istore (i := 5) (lv' := [(5, zI 0), (4, zI (kn : Int)), (0, .ref b), (1, .ref (a 0)), (2, .ref (a' 0)), (3, .ref o)]) X hl (by decide) dL_law_309 rfl (fun ls hl => ?_)
    refine z_aload_n X hl 4 rfl rfl dL_law_311 ?_
    refine z_aload_n X hl 2 rfl rfl dL_law_312 ?_
    refine z_iload X hl 1 rfl dL_law_313 ?_
    refine z_iconst X dL_law_315 ?_
    refine z_iadd X dL_law_316 ?_
    refine r_scr (j := kn + 1) X h hX hbl hbA (by omega) (by omega) hL dL_law_317 ?_
    refine r_lawM (rest := []) X K g h (ct_X10_set v ((xs (kn + 1)).toInt) _ hp) lk_L_78 ⟨rfl, rfl⟩ ⟨Nat.le_trans (Nat.le_of_ble_eq_true rfl) hR.1, Nat.le_trans (Nat.le_of_ble_eq_true rfl) hR.2⟩ rfl (lv_size hl) rfl (Nat.le_of_ble_eq_true rfl) dL_law_318 hb (fun z' v' H locs hq h => ?_)
    refine z_istore (i := 6) (lv' := [(6, zI z'), (5, zI 0), (4, zI (kn : Int)), (0, .ref b), (1, .ref (a 0)), (2, .ref (a' 0)), (3, .ref o)]) X hl (by decide) dL_law_321 rfl (fun ls hl => ?_)
    refine z_aload_n X hl 5 rfl rfl dL_law_323 ?_
    refine r_lawMp (rest := []) X K g h (ct_X10_thrown v' _ hq) lk_L_73 ⟨rfl, rfl⟩ ⟨Nat.le_trans (Nat.le_of_ble_eq_true rfl) hR.1, Nat.le_trans (Nat.le_of_ble_eq_true rfl) hR.2⟩ rfl (lv_size hl) rfl (Nat.le_of_ble_eq_true rfl) dL_law_324 hb (fun t H locs ht h => ?_)
    obtain ⟨rfl, rfl, hN⟩ := ht
    refine z_iload X hl 1 rfl dL_law_327 ?_
    refine lv_icmp_eq (tgt := 334) X.1 X.2.1 dL_law_329 (by decide) (fun _ => ?_) (fun h0 => absurd rfl h0)
    refine z_iload X hl 1 rfl dL_law_334 ?_
    refine lv_if_ne (tgt := 351) X.1 X.2.1 dL_law_336 (by decide) (fun h0 => absurd rfl h0) (fun _ => ?_)
    refine z_aload_n X hl 6 rfl rfl dL_law_339 ?_
    refine z_iconst X dL_law_340 ?_
    refine r_lald X K h dL_law_341 ?_
    refine z_iload X hl 0 rfl dL_law_342 ?_
    refine lv_i2l X.1 X.2.1 dL_law_344 rfl ?_
    refine W.lcmp X.1 X.2.1 dL_law_345 ?_
    rw [show vp_updL f 0 (Int32.ofInt z').toInt64 0 = (Int32.ofInt z').toInt64 from rfl, lg_cmp_rf]
    refine lv_if_eq (tgt := 351) X.1 X.2.1 dL_law_346 (by decide) (fun _ => ?_) (fun h0 => absurd rfl h0)
    refine z_goto (tgt := 1398) X dL_law_351 (by decide) ?_
    exact kk _ _ _ H locs ls hN (lv_sub hl [2, 3, 4, 5, 6] rfl) h
  · obtain ⟨u', rfl, hp⟩ := hp
    have h : HW G A s.heap (LWd G a a' o u' v f) H locs := h
    refine z_istore (i := 5) (lv' := [(5, zI 1), (4, zI (kn : Int)), (0, .ref b), (1, .ref (a 0)), (2, .ref (a' 0)), (3, .ref o)]) X hl (by decide) dL_law_309 rfl (fun ls hl => ?_)
    refine z_aload_n X hl 4 rfl rfl dL_law_311 ?_
    refine z_aload_n X hl 2 rfl rfl dL_law_312 ?_
    refine z_iload X hl 1 rfl dL_law_313 ?_
    refine z_iconst X dL_law_315 ?_
    refine z_iadd X dL_law_316 ?_
    refine r_scr (j := kn + 1) X h hX hbl hbA (by omega) (by omega) hL dL_law_317 ?_
    refine r_lawM (rest := []) X K g h (ct_X10_set v ((xs (kn + 1)).toInt) _ hp) lk_L_78 ⟨rfl, rfl⟩ ⟨Nat.le_trans (Nat.le_of_ble_eq_true rfl) hR.1, Nat.le_trans (Nat.le_of_ble_eq_true rfl) hR.2⟩ rfl (lv_size hl) rfl (Nat.le_of_ble_eq_true rfl) dL_law_318 hb (fun z' v' H locs hq h => ?_)
    refine z_istore (i := 6) (lv' := [(6, zI z'), (5, zI 1), (4, zI (kn : Int)), (0, .ref b), (1, .ref (a 0)), (2, .ref (a' 0)), (3, .ref o)]) X hl (by decide) dL_law_321 rfl (fun ls hl => ?_)
    refine z_aload_n X hl 5 rfl rfl dL_law_323 ?_
    refine r_lawMp (rest := []) X K g h (ct_X10_thrown v' _ hq) lk_L_73 ⟨rfl, rfl⟩ ⟨Nat.le_trans (Nat.le_of_ble_eq_true rfl) hR.1, Nat.le_trans (Nat.le_of_ble_eq_true rfl) hR.2⟩ rfl (lv_size hl) rfl (Nat.le_of_ble_eq_true rfl) dL_law_324 hb (fun t H locs ht h => ?_)
    obtain ⟨rfl, hN⟩ := ht
    refine z_iload X hl 1 rfl dL_law_327 ?_
    refine lv_icmp_eq (tgt := 334) X.1 X.2.1 dL_law_329 (by decide) (fun _ => ?_) (fun h0 => absurd rfl h0)
    refine z_iload X hl 1 rfl dL_law_334 ?_
    refine lv_if_ne (tgt := 351) X.1 X.2.1 dL_law_336 (by decide) (fun _ => ?_) (fun h0 => absurd h0 (by decide))
    refine z_goto (tgt := 1398) X dL_law_351 (by decide) ?_
    exact kk _ _ _ H locs ls hN (lv_sub hl [2, 3, 4, 5, 6] rfl) h
theorem law_4 {p : Program} {l : Launch} {e : Env} {R : Room} {s : State} {m : MethodId} {args : Array Value} {below : List Frame} {meth : Method} {c : Code} {H : Heap} {locs : List Loc} {cells slots : Nat} {Q : State → Prop} {ls : Array Slot} {G : Gr} {A : Nat → Prop} {a a' : Nat → Nat} {o b L kn : Nat} {u v : St} {f : Nat → Int64} {xs : Nat → Int32} (hst : l.stackTraces = false) (hR : 40 ≤ R.frames ∧ 1300 ≤ R.locals) (X : CallFix p m c cL_law 9 s args lw_all RL) (K : KK G s) (g : Gd G A s s.heap) (hX : va_X b L xs s s.heap) (hbl : b < s.heap.size) (hbA : ¬ A b) (hL : L ≤ 3072) (hkn : kn + 6 ≤ L) (h : HW G A s.heap (LWd G a a' o u v f) H locs) (hl : lv_has ls 9 [(4, zI (kn : Int)), (0, .ref b), (1, .ref (a 0)), (2, .ref (a' 0)), (3, .ref o)]) (hb : cells ≤ R.cells ∧ slots ≤ R.slots) (N : St → St → Prop) (hw : w_X9_remove (fun z u' => w_X10_remove (fun z' v' => z' = z ∧ N u' v') v) G u)
    (kk : ∀ (u' v' : St) (f' : Nat → Int64) (H1 : Heap) (locs1 : List Loc) (ls1 : Array Slot), N u' v' → lv_has ls1 9 [(4, zI (kn : Int)), (0, .ref b), (1, .ref (a 0)), (2, .ref (a' 0)), (3, .ref o)] → HW G A s.heap (LWd G a a' o u' v' f') H1 locs1 → W p l e R s m args below meth c H1 locs1 (cells) (slots) Q (F0 m 1398 ls1 [])) : W p l e R s m args below meth c H locs cells slots Q (F0 m 354 ls []) := by
  refine z_aload_n X hl 2 rfl rfl dL_law_354 ?_
  refine r_lawC (rest := []) X K g h (ct_X9_remove u  _ hw) lk_L_79 ⟨rfl, rfl⟩ ⟨Nat.le_trans (Nat.le_of_ble_eq_true rfl) hR.1, Nat.le_trans (Nat.le_of_ble_eq_true rfl) hR.2⟩ rfl (lv_size hl) rfl (Nat.le_of_ble_eq_true rfl) dL_law_355 hb (fun z u' H locs hp h => ?_)
  refine z_aload_n X hl 3 rfl rfl dL_law_358 ?_
  refine r_lawM (rest := [zI z]) X K g h (ct_X10_remove v  _ hp) lk_L_82 ⟨rfl, rfl⟩ ⟨Nat.le_trans (Nat.le_of_ble_eq_true rfl) hR.1, Nat.le_trans (Nat.le_of_ble_eq_true rfl) hR.2⟩ rfl (lv_size hl) rfl (Nat.le_of_ble_eq_true rfl) dL_law_359 hb (fun z' v' H locs hq h => ?_)
  obtain ⟨rfl, hN⟩ := hq
  refine lv_icmp_eq (tgt := 1398) X.1 X.2.1 dL_law_362 (by decide) (fun _ => ?_) (fun h0 => absurd rfl h0)
  exact kk _ _ _ H locs ls hN hl h
theorem law_5 {p : Program} {l : Launch} {e : Env} {R : Room} {s : State} {m : MethodId} {args : Array Value} {below : List Frame} {meth : Method} {c : Code} {H : Heap} {locs : List Loc} {cells slots : Nat} {Q : State → Prop} {ls : Array Slot} {G : Gr} {A : Nat → Prop} {a a' : Nat → Nat} {o b L kn : Nat} {u v : St} {f : Nat → Int64} {xs : Nat → Int32} (hst : l.stackTraces = false) (hR : 40 ≤ R.frames ∧ 1300 ≤ R.locals) (X : CallFix p m c cL_law 9 s args lw_all RL) (K : KK G s) (g : Gd G A s s.heap) (hX : va_X b L xs s s.heap) (hbl : b < s.heap.size) (hbA : ¬ A b) (hL : L ≤ 3072) (hkn : kn + 6 ≤ L) (h : HW G A s.heap (LWd G a a' o u v f) H locs) (hl : lv_has ls 9 [(4, zI (kn : Int)), (0, .ref b), (1, .ref (a 0)), (2, .ref (a' 0)), (3, .ref o)]) (hb : cells ≤ R.cells ∧ slots ≤ R.slots) (N : St → St → Prop) (hw : w_X9_move (fun z u' => w_X10_move (fun z' v' => z' = z ∧ N u' v') v (xs (kn + 1)).toInt) G u (xs (kn + 1)).toInt)
    (kk : ∀ (u' v' : St) (f' : Nat → Int64) (H1 : Heap) (locs1 : List Loc) (ls1 : Array Slot), N u' v' → lv_has ls1 9 [(4, zI (kn : Int)), (0, .ref b), (1, .ref (a 0)), (2, .ref (a' 0)), (3, .ref o)] → HW G A s.heap (LWd G a a' o u' v' f') H1 locs1 → W p l e R s m args below meth c H1 locs1 (cells) (slots) Q (F0 m 1398 ls1 [])) : W p l e R s m args below meth c H locs cells slots Q (F0 m 367 ls []) := by
  refine z_aload_n X hl 2 rfl rfl dL_law_367 ?_
  refine z_aload_n X hl 1 rfl rfl dL_law_368 ?_
  refine z_iload X hl 0 rfl dL_law_369 ?_
  refine z_iconst X dL_law_371 ?_
  refine z_iadd X dL_law_372 ?_
  refine r_scr (j := kn + 1) X h hX hbl hbA (by omega) (by omega) hL dL_law_373 ?_
  refine r_lawC (rest := []) X K g h (ct_X9_move u ((xs (kn + 1)).toInt) _ hw) lk_L_83 ⟨rfl, rfl⟩ ⟨Nat.le_trans (Nat.le_of_ble_eq_true rfl) hR.1, Nat.le_trans (Nat.le_of_ble_eq_true rfl) hR.2⟩ rfl (lv_size hl) rfl (Nat.le_of_ble_eq_true rfl) dL_law_374 hb (fun z u' H locs hp h => ?_)
  refine z_aload_n X hl 3 rfl rfl dL_law_377 ?_
  refine z_aload_n X hl 1 rfl rfl dL_law_378 ?_
  refine z_iload X hl 0 rfl dL_law_379 ?_
  refine z_iconst X dL_law_381 ?_
  refine z_iadd X dL_law_382 ?_
  refine r_scr (j := kn + 1) X h hX hbl hbA (by omega) (by omega) hL dL_law_383 ?_
  refine r_lawM (rest := [zI z]) X K g h (ct_X10_move v ((xs (kn + 1)).toInt) _ hp) lk_L_86 ⟨rfl, rfl⟩ ⟨Nat.le_trans (Nat.le_of_ble_eq_true rfl) hR.1, Nat.le_trans (Nat.le_of_ble_eq_true rfl) hR.2⟩ rfl (lv_size hl) rfl (Nat.le_of_ble_eq_true rfl) dL_law_384 hb (fun z' v' H locs hq h => ?_)
  obtain ⟨rfl, hN⟩ := hq
  refine lv_icmp_eq (tgt := 1398) X.1 X.2.1 dL_law_387 (by decide) (fun _ => ?_) (fun h0 => absurd rfl h0)
  exact kk _ _ _ H locs ls hN hl h
theorem law_6 {p : Program} {l : Launch} {e : Env} {R : Room} {s : State} {m : MethodId} {args : Array Value} {below : List Frame} {meth : Method} {c : Code} {H : Heap} {locs : List Loc} {cells slots : Nat} {Q : State → Prop} {ls : Array Slot} {G : Gr} {A : Nat → Prop} {a a' : Nat → Nat} {o b L kn : Nat} {u v : St} {f : Nat → Int64} {xs : Nat → Int32} {mc ms : Nat} (hst : l.stackTraces = false) (hR : 40 ≤ R.frames ∧ 1300 ≤ R.locals) (X : CallFix p m c cL_law 9 s args lw_all RL) (K : KK G s) (g : Gd G A s s.heap) (hX : va_X b L xs s s.heap) (hbl : b < s.heap.size) (hbA : ¬ A b) (hL : L ≤ 3072) (hkn : kn + 6 ≤ L) (h : HW G A s.heap (LWd G a a' o u v f) H locs) (hl : lv_has ls 9 [(4, zI (kn : Int)), (0, .ref b), (1, .ref (a 0)), (2, .ref (a' 0)), (3, .ref o)]) (hb : cells + mc ≤ R.cells ∧ slots + ms ≤ R.slots) (N : St → St → Prop) (hw : w_X9_find (fun z u' => w_X10_find (fun z' v' => w_X10_thrown (fun t => t = 0 ∧ z' = z ∧ N u' v') v') v (xs (kn + 1)).toInt (if (xs (kn + 2)).toInt = 0 then 0 else 1)) (fun u' => w_X10_find (fun z' v' => w_X10_thrown (fun t => t = 1 ∧ N u' v') v') v (xs (kn + 1)).toInt (if (xs (kn + 2)).toInt = 0 then 0 else 1)) mc ms G u (xs (kn + 1)).toInt (if (xs (kn + 2)).toInt = 0 then 0 else 1))
    (kk : ∀ (u' v' : St) (f' : Nat → Int64) (H1 : Heap) (locs1 : List Loc) (ls1 : Array Slot), N u' v' → lv_has ls1 9 [(4, zI (kn : Int)), (0, .ref b), (1, .ref (a 0)), (2, .ref (a' 0)), (3, .ref o)] → HW G A s.heap (LWd G a a' o u' v' f') H1 locs1 → W p l e R s m args below meth c H1 locs1 (cells + mc) (slots + ms) Q (F0 m 1398 ls1 [])) : W p l e R s m args below meth c H locs cells slots Q (F0 m 392 ls []) := by
  refine z_aload_n X hl 2 rfl rfl dL_law_392 ?_
  refine z_aload_n X hl 1 rfl rfl dL_law_393 ?_
  refine z_iload X hl 0 rfl dL_law_394 ?_
  refine z_iconst X dL_law_396 ?_
  refine z_iadd X dL_law_397 ?_
  refine r_scr (j := kn + 1) X h hX hbl hbA (by omega) (by omega) hL dL_law_398 ?_
  refine z_aload_n X hl 1 rfl rfl dL_law_399 ?_
  refine z_iload X hl 0 rfl dL_law_400 ?_
  refine z_iconst X dL_law_402 ?_
  refine z_iadd X dL_law_403 ?_
  refine r_scr (j := kn + 2) X h hX hbl hbA (by omega) (by omega) hL dL_law_404 ?_
  refine r_flag X dL_law_405 dL_law_408 dL_law_409 dL_law_412 ?_
  refine z_aload_n X hl 4 rfl rfl dL_law_413 ?_
  refine r_lawW (rest := []) X K g h (ct_L_find hst mc ms u ((xs (kn + 1)).toInt) ((if (xs (kn + 2)).toInt = 0 then 0 else 1)) _ _ hw) lkW_find ⟨rfl, rfl⟩ ⟨Nat.le_trans (Nat.le_of_ble_eq_true rfl) hR.1, Nat.le_trans (Nat.le_of_ble_eq_true rfl) hR.2⟩ rfl (lv_size hl) rfl (Nat.le_of_ble_eq_true rfl) dL_law_414 hb (fun z w1 H locs hp h => ?_) (fun w1 H locs hp h => ?_)
  · obtain ⟨u', rfl, hp⟩ := hp
    have h : HW G A s.heap (LWd G a a' o u' v (vp_updL f 0 (Int32.ofInt z).toInt64)) H locs := h
    refine z_istore (i := 5) (lv' := [(5, zI 0), (4, zI (kn : Int)), (0, .ref b), (1, .ref (a 0)), (2, .ref (a' 0)), (3, .ref o)]) X hl (by decide) dL_law_417 rfl (fun ls hl => ?_)
    refine z_aload_n X hl 4 rfl rfl dL_law_419 ?_
    refine z_aload_n X hl 2 rfl rfl dL_law_420 ?_
    refine z_iload X hl 1 rfl dL_law_421 ?_
    refine z_iconst X dL_law_423 ?_
    refine z_iadd X dL_law_424 ?_
    refine r_scr (j := kn + 1) X h hX hbl hbA (by omega) (by omega) hL dL_law_425 ?_
    refine z_aload_n X hl 2 rfl rfl dL_law_426 ?_
    refine z_iload X hl 1 rfl dL_law_427 ?_
    refine z_iconst X dL_law_429 ?_
    refine z_iadd X dL_law_430 ?_
    refine r_scr (j := kn + 2) X h hX hbl hbA (by omega) (by omega) hL dL_law_431 ?_
    refine r_flag X dL_law_432 dL_law_435 dL_law_436 dL_law_439 ?_
    refine r_lawM (rest := []) X K g h (ct_X10_find v ((xs (kn + 1)).toInt) ((if (xs (kn + 2)).toInt = 0 then 0 else 1)) _ hp) lk_L_90 ⟨rfl, rfl⟩ ⟨Nat.le_trans (Nat.le_of_ble_eq_true rfl) hR.1, Nat.le_trans (Nat.le_of_ble_eq_true rfl) hR.2⟩ rfl (lv_size hl) rfl (Nat.le_of_ble_eq_true rfl) dL_law_440 hb (fun z' v' H locs hq h => ?_)
    refine z_istore (i := 6) (lv' := [(6, zI z'), (5, zI 0), (4, zI (kn : Int)), (0, .ref b), (1, .ref (a 0)), (2, .ref (a' 0)), (3, .ref o)]) X hl (by decide) dL_law_443 rfl (fun ls hl => ?_)
    refine z_aload_n X hl 5 rfl rfl dL_law_445 ?_
    refine r_lawMp (rest := []) X K g h (ct_X10_thrown v' _ hq) lk_L_73 ⟨rfl, rfl⟩ ⟨Nat.le_trans (Nat.le_of_ble_eq_true rfl) hR.1, Nat.le_trans (Nat.le_of_ble_eq_true rfl) hR.2⟩ rfl (lv_size hl) rfl (Nat.le_of_ble_eq_true rfl) dL_law_446 hb (fun t H locs ht h => ?_)
    obtain ⟨rfl, rfl, hN⟩ := ht
    refine z_iload X hl 1 rfl dL_law_449 ?_
    refine lv_icmp_eq (tgt := 456) X.1 X.2.1 dL_law_451 (by decide) (fun _ => ?_) (fun h0 => absurd rfl h0)
    refine z_iload X hl 1 rfl dL_law_456 ?_
    refine lv_if_ne (tgt := 473) X.1 X.2.1 dL_law_458 (by decide) (fun h0 => absurd rfl h0) (fun _ => ?_)
    refine z_aload_n X hl 6 rfl rfl dL_law_461 ?_
    refine z_iconst X dL_law_462 ?_
    refine r_lald X K h dL_law_463 ?_
    refine z_iload X hl 0 rfl dL_law_464 ?_
    refine lv_i2l X.1 X.2.1 dL_law_466 rfl ?_
    refine W.lcmp X.1 X.2.1 dL_law_467 ?_
    rw [show vp_updL f 0 (Int32.ofInt z').toInt64 0 = (Int32.ofInt z').toInt64 from rfl, lg_cmp_rf]
    refine lv_if_eq (tgt := 473) X.1 X.2.1 dL_law_468 (by decide) (fun _ => ?_) (fun h0 => absurd rfl h0)
    refine z_goto (tgt := 1398) X dL_law_473 (by decide) ?_
    exact kk _ _ _ H locs ls hN (lv_sub hl [2, 3, 4, 5, 6] rfl) h
  · obtain ⟨u', rfl, hp⟩ := hp
    have h : HW G A s.heap (LWd G a a' o u' v f) H locs := h
    refine z_istore (i := 5) (lv' := [(5, zI 1), (4, zI (kn : Int)), (0, .ref b), (1, .ref (a 0)), (2, .ref (a' 0)), (3, .ref o)]) X hl (by decide) dL_law_417 rfl (fun ls hl => ?_)
    refine z_aload_n X hl 4 rfl rfl dL_law_419 ?_
    refine z_aload_n X hl 2 rfl rfl dL_law_420 ?_
    refine z_iload X hl 1 rfl dL_law_421 ?_
    refine z_iconst X dL_law_423 ?_
    refine z_iadd X dL_law_424 ?_
    refine r_scr (j := kn + 1) X h hX hbl hbA (by omega) (by omega) hL dL_law_425 ?_
    refine z_aload_n X hl 2 rfl rfl dL_law_426 ?_
    refine z_iload X hl 1 rfl dL_law_427 ?_
    refine z_iconst X dL_law_429 ?_
    refine z_iadd X dL_law_430 ?_
    refine r_scr (j := kn + 2) X h hX hbl hbA (by omega) (by omega) hL dL_law_431 ?_
    refine r_flag X dL_law_432 dL_law_435 dL_law_436 dL_law_439 ?_
    refine r_lawM (rest := []) X K g h (ct_X10_find v ((xs (kn + 1)).toInt) ((if (xs (kn + 2)).toInt = 0 then 0 else 1)) _ hp) lk_L_90 ⟨rfl, rfl⟩ ⟨Nat.le_trans (Nat.le_of_ble_eq_true rfl) hR.1, Nat.le_trans (Nat.le_of_ble_eq_true rfl) hR.2⟩ rfl (lv_size hl) rfl (Nat.le_of_ble_eq_true rfl) dL_law_440 hb (fun z' v' H locs hq h => ?_)
    refine z_istore (i := 6) (lv' := [(6, zI z'), (5, zI 1), (4, zI (kn : Int)), (0, .ref b), (1, .ref (a 0)), (2, .ref (a' 0)), (3, .ref o)]) X hl (by decide) dL_law_443 rfl (fun ls hl => ?_)
    refine z_aload_n X hl 5 rfl rfl dL_law_445 ?_
    refine r_lawMp (rest := []) X K g h (ct_X10_thrown v' _ hq) lk_L_73 ⟨rfl, rfl⟩ ⟨Nat.le_trans (Nat.le_of_ble_eq_true rfl) hR.1, Nat.le_trans (Nat.le_of_ble_eq_true rfl) hR.2⟩ rfl (lv_size hl) rfl (Nat.le_of_ble_eq_true rfl) dL_law_446 hb (fun t H locs ht h => ?_)
    obtain ⟨rfl, hN⟩ := ht
    refine z_iload X hl 1 rfl dL_law_449 ?_
    refine lv_icmp_eq (tgt := 456) X.1 X.2.1 dL_law_451 (by decide) (fun _ => ?_) (fun h0 => absurd rfl h0)
    refine z_iload X hl 1 rfl dL_law_456 ?_
    refine lv_if_ne (tgt := 473) X.1 X.2.1 dL_law_458 (by decide) (fun _ => ?_) (fun h0 => absurd h0 (by decide))
    refine z_goto (tgt := 1398) X dL_law_473 (by decide) ?_
    exact kk _ _ _ H locs ls hN (lv_sub hl [2, 3, 4, 5, 6] rfl) h
theorem law_7 {p : Program} {l : Launch} {e : Env} {R : Room} {s : State} {m : MethodId} {args : Array Value} {below : List Frame} {meth : Method} {c : Code} {H : Heap} {locs : List Loc} {cells slots : Nat} {Q : State → Prop} {ls : Array Slot} {G : Gr} {A : Nat → Prop} {a a' : Nat → Nat} {o b L kn : Nat} {u v : St} {f : Nat → Int64} {xs : Nat → Int32} {mc ms : Nat} (hst : l.stackTraces = false) (hR : 40 ≤ R.frames ∧ 1300 ≤ R.locals) (X : CallFix p m c cL_law 9 s args lw_all RL) (K : KK G s) (g : Gd G A s s.heap) (hX : va_X b L xs s s.heap) (hbl : b < s.heap.size) (hbA : ¬ A b) (hL : L ≤ 3072) (hkn : kn + 6 ≤ L) (h : HW G A s.heap (LWd G a a' o u v f) H locs) (hl : lv_has ls 9 [(4, zI (kn : Int)), (0, .ref b), (1, .ref (a 0)), (2, .ref (a' 0)), (3, .ref o)]) (hb : cells + mc ≤ R.cells ∧ slots + ms ≤ R.slots) (N : St → St → Prop) (hw : w_X9_swap (fun z u' => w_X10_swap (fun z' v' => z' = z ∧ N u' v') v) mc ms G u)
    (kk : ∀ (u' v' : St) (f' : Nat → Int64) (H1 : Heap) (locs1 : List Loc) (ls1 : Array Slot), N u' v' → lv_has ls1 9 [(4, zI (kn : Int)), (0, .ref b), (1, .ref (a 0)), (2, .ref (a' 0)), (3, .ref o)] → HW G A s.heap (LWd G a a' o u' v' f') H1 locs1 → W p l e R s m args below meth c H1 locs1 (cells + mc) (slots + ms) Q (F0 m 1398 ls1 [])) : W p l e R s m args below meth c H locs cells slots Q (F0 m 476 ls []) := by
  refine z_aload_n X hl 2 rfl rfl dL_law_476 ?_
  refine r_lawC (rest := []) X K g h (ct_X9_swap mc ms u  _ hw) lk_L_91 ⟨rfl, rfl⟩ ⟨Nat.le_trans (Nat.le_of_ble_eq_true rfl) hR.1, Nat.le_trans (Nat.le_of_ble_eq_true rfl) hR.2⟩ rfl (lv_size hl) rfl (Nat.le_of_ble_eq_true rfl) dL_law_477 hb (fun z u' H locs hp h => ?_)
  refine z_aload_n X hl 3 rfl rfl dL_law_480 ?_
  refine r_lawM (rest := [zI z]) X K g h (ct_X10_swap v  _ hp) lk_L_94 ⟨rfl, rfl⟩ ⟨Nat.le_trans (Nat.le_of_ble_eq_true rfl) hR.1, Nat.le_trans (Nat.le_of_ble_eq_true rfl) hR.2⟩ rfl (lv_size hl) rfl (Nat.le_of_ble_eq_true rfl) dL_law_481 hb (fun z' v' H locs hq h => ?_)
  obtain ⟨rfl, hN⟩ := hq
  refine lv_icmp_eq (tgt := 1398) X.1 X.2.1 dL_law_484 (by decide) (fun _ => ?_) (fun h0 => absurd rfl h0)
  exact kk _ _ _ H locs ls hN hl h
theorem law_8 {p : Program} {l : Launch} {e : Env} {R : Room} {s : State} {m : MethodId} {args : Array Value} {below : List Frame} {meth : Method} {c : Code} {H : Heap} {locs : List Loc} {cells slots : Nat} {Q : State → Prop} {ls : Array Slot} {G : Gr} {A : Nat → Prop} {a a' : Nat → Nat} {o b L kn : Nat} {u v : St} {f : Nat → Int64} {xs : Nat → Int32} {mc ms : Nat} (hst : l.stackTraces = false) (hR : 40 ≤ R.frames ∧ 1300 ≤ R.locals) (X : CallFix p m c cL_law 9 s args lw_all RL) (K : KK G s) (g : Gd G A s s.heap) (hX : va_X b L xs s s.heap) (hbl : b < s.heap.size) (hbA : ¬ A b) (hL : L ≤ 3072) (hkn : kn + 6 ≤ L) (h : HW G A s.heap (LWd G a a' o u v f) H locs) (hl : lv_has ls 9 [(4, zI (kn : Int)), (0, .ref b), (1, .ref (a 0)), (2, .ref (a' 0)), (3, .ref o)]) (hb : cells + mc ≤ R.cells ∧ slots + ms ≤ R.slots) (N : St → St → Prop) (hw : w_X9_undo (fun z u' => w_X10_undo (fun z' v' => z' = z ∧ N u' v') v) mc ms G u)
    (kk : ∀ (u' v' : St) (f' : Nat → Int64) (H1 : Heap) (locs1 : List Loc) (ls1 : Array Slot), N u' v' → lv_has ls1 9 [(4, zI (kn : Int)), (0, .ref b), (1, .ref (a 0)), (2, .ref (a' 0)), (3, .ref o)] → HW G A s.heap (LWd G a a' o u' v' f') H1 locs1 → W p l e R s m args below meth c H1 locs1 (cells + mc) (slots + ms) Q (F0 m 1398 ls1 [])) : W p l e R s m args below meth c H locs cells slots Q (F0 m 489 ls []) := by
  refine z_aload_n X hl 2 rfl rfl dL_law_489 ?_
  refine r_lawC (rest := []) X K g h (ct_X9_undo mc ms u  _ hw) lk_L_95 ⟨rfl, rfl⟩ ⟨Nat.le_trans (Nat.le_of_ble_eq_true rfl) hR.1, Nat.le_trans (Nat.le_of_ble_eq_true rfl) hR.2⟩ rfl (lv_size hl) rfl (Nat.le_of_ble_eq_true rfl) dL_law_490 hb (fun z u' H locs hp h => ?_)
  refine z_aload_n X hl 3 rfl rfl dL_law_493 ?_
  refine r_lawM (rest := [zI z]) X K g h (ct_X10_undo v  _ hp) lk_L_98 ⟨rfl, rfl⟩ ⟨Nat.le_trans (Nat.le_of_ble_eq_true rfl) hR.1, Nat.le_trans (Nat.le_of_ble_eq_true rfl) hR.2⟩ rfl (lv_size hl) rfl (Nat.le_of_ble_eq_true rfl) dL_law_494 hb (fun z' v' H locs hq h => ?_)
  obtain ⟨rfl, hN⟩ := hq
  refine lv_icmp_eq (tgt := 1398) X.1 X.2.1 dL_law_497 (by decide) (fun _ => ?_) (fun h0 => absurd rfl h0)
  exact kk _ _ _ H locs ls hN hl h
theorem law_9 {p : Program} {l : Launch} {e : Env} {R : Room} {s : State} {m : MethodId} {args : Array Value} {below : List Frame} {meth : Method} {c : Code} {H : Heap} {locs : List Loc} {cells slots : Nat} {Q : State → Prop} {ls : Array Slot} {G : Gr} {A : Nat → Prop} {a a' : Nat → Nat} {o b L kn : Nat} {u v : St} {f : Nat → Int64} {xs : Nat → Int32} (hst : l.stackTraces = false) (hR : 40 ≤ R.frames ∧ 1300 ≤ R.locals) (X : CallFix p m c cL_law 9 s args lw_all RL) (K : KK G s) (g : Gd G A s s.heap) (hX : va_X b L xs s s.heap) (hbl : b < s.heap.size) (hbA : ¬ A b) (hL : L ≤ 3072) (hkn : kn + 6 ≤ L) (h : HW G A s.heap (LWd G a a' o u v f) H locs) (hl : lv_has ls 9 [(4, zI (kn : Int)), (0, .ref b), (1, .ref (a 0)), (2, .ref (a' 0)), (3, .ref o)]) (hb : cells ≤ R.cells ∧ slots ≤ R.slots) (N : St → St → Prop) (hw : w_X9_undoable (fun z => w_X10_undoable (fun z' v' => z' = z ∧ N u v') v) u)
    (kk : ∀ (u' v' : St) (f' : Nat → Int64) (H1 : Heap) (locs1 : List Loc) (ls1 : Array Slot), N u' v' → lv_has ls1 9 [(4, zI (kn : Int)), (0, .ref b), (1, .ref (a 0)), (2, .ref (a' 0)), (3, .ref o)] → HW G A s.heap (LWd G a a' o u' v' f') H1 locs1 → W p l e R s m args below meth c H1 locs1 (cells) (slots) Q (F0 m 1398 ls1 [])) : W p l e R s m args below meth c H locs cells slots Q (F0 m 502 ls []) := by
  refine z_aload_n X hl 2 rfl rfl dL_law_502 ?_
  refine r_lawCp (rest := []) X K g h (ct_X9_undoable u  _ hw) lk_L_99 ⟨rfl, rfl⟩ ⟨Nat.le_trans (Nat.le_of_ble_eq_true rfl) hR.1, Nat.le_trans (Nat.le_of_ble_eq_true rfl) hR.2⟩ rfl (lv_size hl) rfl (Nat.le_of_ble_eq_true rfl) dL_law_503 hb (fun z H locs hp h => ?_)
  refine z_aload_n X hl 3 rfl rfl dL_law_506 ?_
  refine r_lawM (rest := [zI z]) X K g h (ct_X10_undoable v  _ hp) lk_L_102 ⟨rfl, rfl⟩ ⟨Nat.le_trans (Nat.le_of_ble_eq_true rfl) hR.1, Nat.le_trans (Nat.le_of_ble_eq_true rfl) hR.2⟩ rfl (lv_size hl) rfl (Nat.le_of_ble_eq_true rfl) dL_law_507 hb (fun z' v' H locs hq h => ?_)
  obtain ⟨rfl, hN⟩ := hq
  refine lv_icmp_eq (tgt := 1398) X.1 X.2.1 dL_law_510 (by decide) (fun _ => ?_) (fun h0 => absurd rfl h0)
  exact kk _ _ _ H locs ls hN hl h
theorem law_10 {p : Program} {l : Launch} {e : Env} {R : Room} {s : State} {m : MethodId} {args : Array Value} {below : List Frame} {meth : Method} {c : Code} {H : Heap} {locs : List Loc} {cells slots : Nat} {Q : State → Prop} {ls : Array Slot} {G : Gr} {A : Nat → Prop} {a a' : Nat → Nat} {o b L kn : Nat} {u v : St} {f : Nat → Int64} {xs : Nat → Int32} {mc ms : Nat} (hst : l.stackTraces = false) (hR : 40 ≤ R.frames ∧ 1300 ≤ R.locals) (X : CallFix p m c cL_law 9 s args lw_all RL) (K : KK G s) (g : Gd G A s s.heap) (hX : va_X b L xs s s.heap) (hbl : b < s.heap.size) (hbA : ¬ A b) (hL : L ≤ 3072) (hkn : kn + 6 ≤ L) (h : HW G A s.heap (LWd G a a' o u v f) H locs) (hl : lv_has ls 9 [(4, zI (kn : Int)), (0, .ref b), (1, .ref (a 0)), (2, .ref (a' 0)), (3, .ref o)]) (hb : cells + mc ≤ R.cells ∧ slots + ms ≤ R.slots) (N : St → St → Prop) (hw : w_X9_append (fun z u' => w_X10_append (fun z' v' => w_X10_thrown (fun t => t = 0 ∧ z' = z ∧ N u' v') v') v (xs (kn + 1)).toInt (xs (kn + 2)).toInt (xs (kn + 3)).toInt (xs (kn + 4)).toInt (xs (kn + 5)).toInt) (fun u' => w_X10_append (fun z' v' => w_X10_thrown (fun t => t = 1 ∧ N u' v') v') v (xs (kn + 1)).toInt (xs (kn + 2)).toInt (xs (kn + 3)).toInt (xs (kn + 4)).toInt (xs (kn + 5)).toInt) mc ms u (xs (kn + 1)).toInt (xs (kn + 2)).toInt (xs (kn + 3)).toInt (xs (kn + 4)).toInt (xs (kn + 5)).toInt)
    (kk : ∀ (u' v' : St) (f' : Nat → Int64) (H1 : Heap) (locs1 : List Loc) (ls1 : Array Slot), N u' v' → lv_has ls1 9 [(4, zI (kn : Int)), (0, .ref b), (1, .ref (a 0)), (2, .ref (a' 0)), (3, .ref o)] → HW G A s.heap (LWd G a a' o u' v' f') H1 locs1 → W p l e R s m args below meth c H1 locs1 (cells + mc) (slots + ms) Q (F0 m 1398 ls1 [])) : W p l e R s m args below meth c H locs cells slots Q (F0 m 515 ls []) := by
  refine z_aload_n X hl 2 rfl rfl dL_law_515 ?_
  refine z_aload_n X hl 1 rfl rfl dL_law_516 ?_
  refine z_iload X hl 0 rfl dL_law_517 ?_
  refine z_iconst X dL_law_519 ?_
  refine z_iadd X dL_law_520 ?_
  refine r_scr (j := kn + 1) X h hX hbl hbA (by omega) (by omega) hL dL_law_521 ?_
  refine z_aload_n X hl 1 rfl rfl dL_law_522 ?_
  refine z_iload X hl 0 rfl dL_law_523 ?_
  refine z_iconst X dL_law_525 ?_
  refine z_iadd X dL_law_526 ?_
  refine r_scr (j := kn + 2) X h hX hbl hbA (by omega) (by omega) hL dL_law_527 ?_
  refine z_aload_n X hl 1 rfl rfl dL_law_528 ?_
  refine z_iload X hl 0 rfl dL_law_529 ?_
  refine z_iconst X dL_law_531 ?_
  refine z_iadd X dL_law_532 ?_
  refine r_scr (j := kn + 3) X h hX hbl hbA (by omega) (by omega) hL dL_law_533 ?_
  refine z_aload_n X hl 1 rfl rfl dL_law_534 ?_
  refine z_iload X hl 0 rfl dL_law_535 ?_
  refine z_iconst X dL_law_537 ?_
  refine z_iadd X dL_law_538 ?_
  refine r_scr (j := kn + 4) X h hX hbl hbA (by omega) (by omega) hL dL_law_539 ?_
  refine z_aload_n X hl 1 rfl rfl dL_law_540 ?_
  refine z_iload X hl 0 rfl dL_law_541 ?_
  refine z_iconst X dL_law_543 ?_
  refine z_iadd X dL_law_544 ?_
  refine r_scr (j := kn + 5) X h hX hbl hbA (by omega) (by omega) hL dL_law_545 ?_
  refine z_aload_n X hl 4 rfl rfl dL_law_546 ?_
  refine r_lawW (rest := []) X K g h (ct_L_append hst mc ms u ((xs (kn + 1)).toInt) ((xs (kn + 2)).toInt) ((xs (kn + 3)).toInt) ((xs (kn + 4)).toInt) ((xs (kn + 5)).toInt) _ _ hw) lkW_append ⟨rfl, rfl⟩ ⟨Nat.le_trans (Nat.le_of_ble_eq_true rfl) hR.1, Nat.le_trans (Nat.le_of_ble_eq_true rfl) hR.2⟩ rfl (lv_size hl) rfl (Nat.le_of_ble_eq_true rfl) dL_law_547 hb (fun z w1 H locs hp h => ?_) (fun w1 H locs hp h => ?_)
  · obtain ⟨u', rfl, hp⟩ := hp
    have h : HW G A s.heap (LWd G a a' o u' v (vp_updL f 0 (Int32.ofInt z).toInt64)) H locs := h
    refine z_istore (i := 5) (lv' := [(5, zI 0), (4, zI (kn : Int)), (0, .ref b), (1, .ref (a 0)), (2, .ref (a' 0)), (3, .ref o)]) X hl (by decide) dL_law_550 rfl (fun ls hl => ?_)
    refine z_aload_n X hl 4 rfl rfl dL_law_552 ?_
    refine z_aload_n X hl 2 rfl rfl dL_law_553 ?_
    refine z_iload X hl 1 rfl dL_law_554 ?_
    refine z_iconst X dL_law_556 ?_
    refine z_iadd X dL_law_557 ?_
    refine r_scr (j := kn + 1) X h hX hbl hbA (by omega) (by omega) hL dL_law_558 ?_
    refine z_aload_n X hl 2 rfl rfl dL_law_559 ?_
    refine z_iload X hl 1 rfl dL_law_560 ?_
    refine z_iconst X dL_law_562 ?_
    refine z_iadd X dL_law_563 ?_
    refine r_scr (j := kn + 2) X h hX hbl hbA (by omega) (by omega) hL dL_law_564 ?_
    refine z_aload_n X hl 2 rfl rfl dL_law_565 ?_
    refine z_iload X hl 1 rfl dL_law_566 ?_
    refine z_iconst X dL_law_568 ?_
    refine z_iadd X dL_law_569 ?_
    refine r_scr (j := kn + 3) X h hX hbl hbA (by omega) (by omega) hL dL_law_570 ?_
    refine z_aload_n X hl 2 rfl rfl dL_law_571 ?_
    refine z_iload X hl 1 rfl dL_law_572 ?_
    refine z_iconst X dL_law_574 ?_
    refine z_iadd X dL_law_575 ?_
    refine r_scr (j := kn + 4) X h hX hbl hbA (by omega) (by omega) hL dL_law_576 ?_
    refine z_aload_n X hl 2 rfl rfl dL_law_577 ?_
    refine z_iload X hl 1 rfl dL_law_578 ?_
    refine z_iconst X dL_law_580 ?_
    refine z_iadd X dL_law_581 ?_
    refine r_scr (j := kn + 5) X h hX hbl hbA (by omega) (by omega) hL dL_law_582 ?_
    refine r_lawM (rest := []) X K g h (ct_X10_append v ((xs (kn + 1)).toInt) ((xs (kn + 2)).toInt) ((xs (kn + 3)).toInt) ((xs (kn + 4)).toInt) ((xs (kn + 5)).toInt) _ hp) lk_L_106 ⟨rfl, rfl⟩ ⟨Nat.le_trans (Nat.le_of_ble_eq_true rfl) hR.1, Nat.le_trans (Nat.le_of_ble_eq_true rfl) hR.2⟩ rfl (lv_size hl) rfl (Nat.le_of_ble_eq_true rfl) dL_law_583 hb (fun z' v' H locs hq h => ?_)
    refine z_istore (i := 6) (lv' := [(6, zI z'), (5, zI 0), (4, zI (kn : Int)), (0, .ref b), (1, .ref (a 0)), (2, .ref (a' 0)), (3, .ref o)]) X hl (by decide) dL_law_586 rfl (fun ls hl => ?_)
    refine z_aload_n X hl 5 rfl rfl dL_law_588 ?_
    refine r_lawMp (rest := []) X K g h (ct_X10_thrown v' _ hq) lk_L_73 ⟨rfl, rfl⟩ ⟨Nat.le_trans (Nat.le_of_ble_eq_true rfl) hR.1, Nat.le_trans (Nat.le_of_ble_eq_true rfl) hR.2⟩ rfl (lv_size hl) rfl (Nat.le_of_ble_eq_true rfl) dL_law_589 hb (fun t H locs ht h => ?_)
    obtain ⟨rfl, rfl, hN⟩ := ht
    refine z_iload X hl 1 rfl dL_law_592 ?_
    refine lv_icmp_eq (tgt := 599) X.1 X.2.1 dL_law_594 (by decide) (fun _ => ?_) (fun h0 => absurd rfl h0)
    refine z_iload X hl 1 rfl dL_law_599 ?_
    refine lv_if_ne (tgt := 616) X.1 X.2.1 dL_law_601 (by decide) (fun h0 => absurd rfl h0) (fun _ => ?_)
    refine z_aload_n X hl 6 rfl rfl dL_law_604 ?_
    refine z_iconst X dL_law_605 ?_
    refine r_lald X K h dL_law_606 ?_
    refine z_iload X hl 0 rfl dL_law_607 ?_
    refine lv_i2l X.1 X.2.1 dL_law_609 rfl ?_
    refine W.lcmp X.1 X.2.1 dL_law_610 ?_
    rw [show vp_updL f 0 (Int32.ofInt z').toInt64 0 = (Int32.ofInt z').toInt64 from rfl, lg_cmp_rf]
    refine lv_if_eq (tgt := 616) X.1 X.2.1 dL_law_611 (by decide) (fun _ => ?_) (fun h0 => absurd rfl h0)
    refine z_goto (tgt := 1398) X dL_law_616 (by decide) ?_
    exact kk _ _ _ H locs ls hN (lv_sub hl [2, 3, 4, 5, 6] rfl) h
  · obtain ⟨u', rfl, hp⟩ := hp
    have h : HW G A s.heap (LWd G a a' o u' v f) H locs := h
    refine z_istore (i := 5) (lv' := [(5, zI 1), (4, zI (kn : Int)), (0, .ref b), (1, .ref (a 0)), (2, .ref (a' 0)), (3, .ref o)]) X hl (by decide) dL_law_550 rfl (fun ls hl => ?_)
    refine z_aload_n X hl 4 rfl rfl dL_law_552 ?_
    refine z_aload_n X hl 2 rfl rfl dL_law_553 ?_
    refine z_iload X hl 1 rfl dL_law_554 ?_
    refine z_iconst X dL_law_556 ?_
    refine z_iadd X dL_law_557 ?_
    refine r_scr (j := kn + 1) X h hX hbl hbA (by omega) (by omega) hL dL_law_558 ?_
    refine z_aload_n X hl 2 rfl rfl dL_law_559 ?_
    refine z_iload X hl 1 rfl dL_law_560 ?_
    refine z_iconst X dL_law_562 ?_
    refine z_iadd X dL_law_563 ?_
    refine r_scr (j := kn + 2) X h hX hbl hbA (by omega) (by omega) hL dL_law_564 ?_
    refine z_aload_n X hl 2 rfl rfl dL_law_565 ?_
    refine z_iload X hl 1 rfl dL_law_566 ?_
    refine z_iconst X dL_law_568 ?_
    refine z_iadd X dL_law_569 ?_
    refine r_scr (j := kn + 3) X h hX hbl hbA (by omega) (by omega) hL dL_law_570 ?_
    refine z_aload_n X hl 2 rfl rfl dL_law_571 ?_
    refine z_iload X hl 1 rfl dL_law_572 ?_
    refine z_iconst X dL_law_574 ?_
    refine z_iadd X dL_law_575 ?_
    refine r_scr (j := kn + 4) X h hX hbl hbA (by omega) (by omega) hL dL_law_576 ?_
    refine z_aload_n X hl 2 rfl rfl dL_law_577 ?_
    refine z_iload X hl 1 rfl dL_law_578 ?_
    refine z_iconst X dL_law_580 ?_
    refine z_iadd X dL_law_581 ?_
    refine r_scr (j := kn + 5) X h hX hbl hbA (by omega) (by omega) hL dL_law_582 ?_
    refine r_lawM (rest := []) X K g h (ct_X10_append v ((xs (kn + 1)).toInt) ((xs (kn + 2)).toInt) ((xs (kn + 3)).toInt) ((xs (kn + 4)).toInt) ((xs (kn + 5)).toInt) _ hp) lk_L_106 ⟨rfl, rfl⟩ ⟨Nat.le_trans (Nat.le_of_ble_eq_true rfl) hR.1, Nat.le_trans (Nat.le_of_ble_eq_true rfl) hR.2⟩ rfl (lv_size hl) rfl (Nat.le_of_ble_eq_true rfl) dL_law_583 hb (fun z' v' H locs hq h => ?_)
    refine z_istore (i := 6) (lv' := [(6, zI z'), (5, zI 1), (4, zI (kn : Int)), (0, .ref b), (1, .ref (a 0)), (2, .ref (a' 0)), (3, .ref o)]) X hl (by decide) dL_law_586 rfl (fun ls hl => ?_)
    refine z_aload_n X hl 5 rfl rfl dL_law_588 ?_
    refine r_lawMp (rest := []) X K g h (ct_X10_thrown v' _ hq) lk_L_73 ⟨rfl, rfl⟩ ⟨Nat.le_trans (Nat.le_of_ble_eq_true rfl) hR.1, Nat.le_trans (Nat.le_of_ble_eq_true rfl) hR.2⟩ rfl (lv_size hl) rfl (Nat.le_of_ble_eq_true rfl) dL_law_589 hb (fun t H locs ht h => ?_)
    obtain ⟨rfl, hN⟩ := ht
    refine z_iload X hl 1 rfl dL_law_592 ?_
    refine lv_icmp_eq (tgt := 599) X.1 X.2.1 dL_law_594 (by decide) (fun _ => ?_) (fun h0 => absurd rfl h0)
    refine z_iload X hl 1 rfl dL_law_599 ?_
    refine lv_if_ne (tgt := 616) X.1 X.2.1 dL_law_601 (by decide) (fun _ => ?_) (fun h0 => absurd h0 (by decide))
    refine z_goto (tgt := 1398) X dL_law_616 (by decide) ?_
    exact kk _ _ _ H locs ls hN (lv_sub hl [2, 3, 4, 5, 6] rfl) h
theorem law_11 {p : Program} {l : Launch} {e : Env} {R : Room} {s : State} {m : MethodId} {args : Array Value} {below : List Frame} {meth : Method} {c : Code} {H : Heap} {locs : List Loc} {cells slots : Nat} {Q : State → Prop} {ls : Array Slot} {G : Gr} {A : Nat → Prop} {a a' : Nat → Nat} {o b L kn : Nat} {u v : St} {f : Nat → Int64} {xs : Nat → Int32} (hst : l.stackTraces = false) (hR : 40 ≤ R.frames ∧ 1300 ≤ R.locals) (X : CallFix p m c cL_law 9 s args lw_all RL) (K : KK G s) (g : Gd G A s s.heap) (hX : va_X b L xs s s.heap) (hbl : b < s.heap.size) (hbA : ¬ A b) (hL : L ≤ 3072) (hkn : kn + 6 ≤ L) (h : HW G A s.heap (LWd G a a' o u v f) H locs) (hl : lv_has ls 9 [(4, zI (kn : Int)), (0, .ref b), (1, .ref (a 0)), (2, .ref (a' 0)), (3, .ref o)]) (hb : cells ≤ R.cells ∧ slots ≤ R.slots) (N : St → St → Prop) (hw : w_X9_clearTape (fun z u' => w_X10_clearTape (fun z' v' => z' = z ∧ N u' v') v) u)
    (kk : ∀ (u' v' : St) (f' : Nat → Int64) (H1 : Heap) (locs1 : List Loc) (ls1 : Array Slot), N u' v' → lv_has ls1 9 [(4, zI (kn : Int)), (0, .ref b), (1, .ref (a 0)), (2, .ref (a' 0)), (3, .ref o)] → HW G A s.heap (LWd G a a' o u' v' f') H1 locs1 → W p l e R s m args below meth c H1 locs1 (cells) (slots) Q (F0 m 1398 ls1 [])) : W p l e R s m args below meth c H locs cells slots Q (F0 m 619 ls []) := by
  refine z_aload_n X hl 2 rfl rfl dL_law_619 ?_
  refine r_lawC (rest := []) X K g h (ct_X9_clearTape u  _ hw) lk_L_107 ⟨rfl, rfl⟩ ⟨Nat.le_trans (Nat.le_of_ble_eq_true rfl) hR.1, Nat.le_trans (Nat.le_of_ble_eq_true rfl) hR.2⟩ rfl (lv_size hl) rfl (Nat.le_of_ble_eq_true rfl) dL_law_620 hb (fun z u' H locs hp h => ?_)
  refine z_aload_n X hl 3 rfl rfl dL_law_623 ?_
  refine r_lawM (rest := [zI z]) X K g h (ct_X10_clearTape v  _ hp) lk_L_110 ⟨rfl, rfl⟩ ⟨Nat.le_trans (Nat.le_of_ble_eq_true rfl) hR.1, Nat.le_trans (Nat.le_of_ble_eq_true rfl) hR.2⟩ rfl (lv_size hl) rfl (Nat.le_of_ble_eq_true rfl) dL_law_624 hb (fun z' v' H locs hq h => ?_)
  obtain ⟨rfl, hN⟩ := hq
  refine lv_icmp_eq (tgt := 1398) X.1 X.2.1 dL_law_627 (by decide) (fun _ => ?_) (fun h0 => absurd rfl h0)
  exact kk _ _ _ H locs ls hN hl h
theorem law_12 {p : Program} {l : Launch} {e : Env} {R : Room} {s : State} {m : MethodId} {args : Array Value} {below : List Frame} {meth : Method} {c : Code} {H : Heap} {locs : List Loc} {cells slots : Nat} {Q : State → Prop} {ls : Array Slot} {G : Gr} {A : Nat → Prop} {a a' : Nat → Nat} {o b L kn : Nat} {u v : St} {f : Nat → Int64} {xs : Nat → Int32} {mc ms : Nat} (hst : l.stackTraces = false) (hR : 40 ≤ R.frames ∧ 1300 ≤ R.locals) (X : CallFix p m c cL_law 9 s args lw_all RL) (K : KK G s) (g : Gd G A s s.heap) (hX : va_X b L xs s s.heap) (hbl : b < s.heap.size) (hbA : ¬ A b) (hL : L ≤ 3072) (hkn : kn + 6 ≤ L) (h : HW G A s.heap (LWd G a a' o u v f) H locs) (hl : lv_has ls 9 [(4, zI (kn : Int)), (0, .ref b), (1, .ref (a 0)), (2, .ref (a' 0)), (3, .ref o)]) (hb : cells + mc ≤ R.cells ∧ slots + ms ≤ R.slots) (N : St → St → Prop) (hw : w_X9_fill (fun z u' => w_X10_fill (fun z' v' => w_X10_thrown (fun t => t = 0 ∧ z' = z ∧ N u' v') v') v) (fun u' => w_X10_fill (fun z' v' => w_X10_thrown (fun t => t = 1 ∧ N u' v') v') v) mc ms G u)
    (kk : ∀ (u' v' : St) (f' : Nat → Int64) (H1 : Heap) (locs1 : List Loc) (ls1 : Array Slot), N u' v' → lv_has ls1 9 [(4, zI (kn : Int)), (0, .ref b), (1, .ref (a 0)), (2, .ref (a' 0)), (3, .ref o)] → HW G A s.heap (LWd G a a' o u' v' f') H1 locs1 → W p l e R s m args below meth c H1 locs1 (cells + mc) (slots + ms) Q (F0 m 1398 ls1 [])) : W p l e R s m args below meth c H locs cells slots Q (F0 m 632 ls []) := by
  refine z_aload_n X hl 2 rfl rfl dL_law_632 ?_
  refine z_aload_n X hl 4 rfl rfl dL_law_633 ?_
  refine r_lawW (rest := []) X K g h (ct_L_fill hst mc ms u  _ _ hw) lkW_fill ⟨rfl, rfl⟩ ⟨Nat.le_trans (Nat.le_of_ble_eq_true rfl) hR.1, Nat.le_trans (Nat.le_of_ble_eq_true rfl) hR.2⟩ rfl (lv_size hl) rfl (Nat.le_of_ble_eq_true rfl) dL_law_634 hb (fun z w1 H locs hp h => ?_) (fun w1 H locs hp h => ?_)
  · obtain ⟨u', rfl, hp⟩ := hp
    have h : HW G A s.heap (LWd G a a' o u' v (vp_updL f 0 (Int32.ofInt z).toInt64)) H locs := h
    refine z_istore (i := 5) (lv' := [(5, zI 0), (4, zI (kn : Int)), (0, .ref b), (1, .ref (a 0)), (2, .ref (a' 0)), (3, .ref o)]) X hl (by decide) dL_law_637 rfl (fun ls hl => ?_)
    refine z_aload_n X hl 4 rfl rfl dL_law_639 ?_
    refine r_lawM (rest := []) X K g h (ct_X10_fill v  _ hp) lk_L_114 ⟨rfl, rfl⟩ ⟨Nat.le_trans (Nat.le_of_ble_eq_true rfl) hR.1, Nat.le_trans (Nat.le_of_ble_eq_true rfl) hR.2⟩ rfl (lv_size hl) rfl (Nat.le_of_ble_eq_true rfl) dL_law_640 hb (fun z' v' H locs hq h => ?_)
    refine z_istore (i := 6) (lv' := [(6, zI z'), (5, zI 0), (4, zI (kn : Int)), (0, .ref b), (1, .ref (a 0)), (2, .ref (a' 0)), (3, .ref o)]) X hl (by decide) dL_law_643 rfl (fun ls hl => ?_)
    refine z_aload_n X hl 5 rfl rfl dL_law_645 ?_
    refine r_lawMp (rest := []) X K g h (ct_X10_thrown v' _ hq) lk_L_73 ⟨rfl, rfl⟩ ⟨Nat.le_trans (Nat.le_of_ble_eq_true rfl) hR.1, Nat.le_trans (Nat.le_of_ble_eq_true rfl) hR.2⟩ rfl (lv_size hl) rfl (Nat.le_of_ble_eq_true rfl) dL_law_646 hb (fun t H locs ht h => ?_)
    obtain ⟨rfl, rfl, hN⟩ := ht
    refine z_iload X hl 1 rfl dL_law_649 ?_
    refine lv_icmp_eq (tgt := 656) X.1 X.2.1 dL_law_651 (by decide) (fun _ => ?_) (fun h0 => absurd rfl h0)
    refine z_iload X hl 1 rfl dL_law_656 ?_
    refine lv_if_ne (tgt := 673) X.1 X.2.1 dL_law_658 (by decide) (fun h0 => absurd rfl h0) (fun _ => ?_)
    refine z_aload_n X hl 6 rfl rfl dL_law_661 ?_
    refine z_iconst X dL_law_662 ?_
    refine r_lald X K h dL_law_663 ?_
    refine z_iload X hl 0 rfl dL_law_664 ?_
    refine lv_i2l X.1 X.2.1 dL_law_666 rfl ?_
    refine W.lcmp X.1 X.2.1 dL_law_667 ?_
    rw [show vp_updL f 0 (Int32.ofInt z').toInt64 0 = (Int32.ofInt z').toInt64 from rfl, lg_cmp_rf]
    refine lv_if_eq (tgt := 673) X.1 X.2.1 dL_law_668 (by decide) (fun _ => ?_) (fun h0 => absurd rfl h0)
    refine z_goto (tgt := 1398) X dL_law_673 (by decide) ?_
    exact kk _ _ _ H locs ls hN (lv_sub hl [2, 3, 4, 5, 6] rfl) h
  · obtain ⟨u', rfl, hp⟩ := hp
    have h : HW G A s.heap (LWd G a a' o u' v f) H locs := h
    refine z_istore (i := 5) (lv' := [(5, zI 1), (4, zI (kn : Int)), (0, .ref b), (1, .ref (a 0)), (2, .ref (a' 0)), (3, .ref o)]) X hl (by decide) dL_law_637 rfl (fun ls hl => ?_)
    refine z_aload_n X hl 4 rfl rfl dL_law_639 ?_
    refine r_lawM (rest := []) X K g h (ct_X10_fill v  _ hp) lk_L_114 ⟨rfl, rfl⟩ ⟨Nat.le_trans (Nat.le_of_ble_eq_true rfl) hR.1, Nat.le_trans (Nat.le_of_ble_eq_true rfl) hR.2⟩ rfl (lv_size hl) rfl (Nat.le_of_ble_eq_true rfl) dL_law_640 hb (fun z' v' H locs hq h => ?_)
    refine z_istore (i := 6) (lv' := [(6, zI z'), (5, zI 1), (4, zI (kn : Int)), (0, .ref b), (1, .ref (a 0)), (2, .ref (a' 0)), (3, .ref o)]) X hl (by decide) dL_law_643 rfl (fun ls hl => ?_)
    refine z_aload_n X hl 5 rfl rfl dL_law_645 ?_
    refine r_lawMp (rest := []) X K g h (ct_X10_thrown v' _ hq) lk_L_73 ⟨rfl, rfl⟩ ⟨Nat.le_trans (Nat.le_of_ble_eq_true rfl) hR.1, Nat.le_trans (Nat.le_of_ble_eq_true rfl) hR.2⟩ rfl (lv_size hl) rfl (Nat.le_of_ble_eq_true rfl) dL_law_646 hb (fun t H locs ht h => ?_)
    obtain ⟨rfl, hN⟩ := ht
    refine z_iload X hl 1 rfl dL_law_649 ?_
    refine lv_icmp_eq (tgt := 656) X.1 X.2.1 dL_law_651 (by decide) (fun _ => ?_) (fun h0 => absurd rfl h0)
    refine z_iload X hl 1 rfl dL_law_656 ?_
    refine lv_if_ne (tgt := 673) X.1 X.2.1 dL_law_658 (by decide) (fun _ => ?_) (fun h0 => absurd h0 (by decide))
    refine z_goto (tgt := 1398) X dL_law_673 (by decide) ?_
    exact kk _ _ _ H locs ls hN (lv_sub hl [2, 3, 4, 5, 6] rfl) h
theorem law_13 {p : Program} {l : Launch} {e : Env} {R : Room} {s : State} {m : MethodId} {args : Array Value} {below : List Frame} {meth : Method} {c : Code} {H : Heap} {locs : List Loc} {cells slots : Nat} {Q : State → Prop} {ls : Array Slot} {G : Gr} {A : Nat → Prop} {a a' : Nat → Nat} {o b L kn : Nat} {u v : St} {f : Nat → Int64} {xs : Nat → Int32} {mc ms : Nat} (hst : l.stackTraces = false) (hR : 40 ≤ R.frames ∧ 1300 ≤ R.locals) (X : CallFix p m c cL_law 9 s args lw_all RL) (K : KK G s) (g : Gd G A s s.heap) (hX : va_X b L xs s s.heap) (hbl : b < s.heap.size) (hbA : ¬ A b) (hL : L ≤ 3072) (hkn : kn + 6 ≤ L) (h : HW G A s.heap (LWd G a a' o u v f) H locs) (hl : lv_has ls 9 [(4, zI (kn : Int)), (0, .ref b), (1, .ref (a 0)), (2, .ref (a' 0)), (3, .ref o)]) (hb : cells + mc ≤ R.cells ∧ slots + ms ≤ R.slots) (N : St → St → Prop) (hw : w_X9_run (fun z u' => w_X10_run (fun z' v' => w_X10_thrown (fun t => t = 0 ∧ z' = z ∧ N u' v') v') v) (fun u' => w_X10_run (fun z' v' => w_X10_thrown (fun t => t = 1 ∧ N u' v') v') v) mc ms G u)
    (kk : ∀ (u' v' : St) (f' : Nat → Int64) (H1 : Heap) (locs1 : List Loc) (ls1 : Array Slot), N u' v' → lv_has ls1 9 [(4, zI (kn : Int)), (0, .ref b), (1, .ref (a 0)), (2, .ref (a' 0)), (3, .ref o)] → HW G A s.heap (LWd G a a' o u' v' f') H1 locs1 → W p l e R s m args below meth c H1 locs1 (cells + mc) (slots + ms) Q (F0 m 1398 ls1 [])) : W p l e R s m args below meth c H locs cells slots Q (F0 m 676 ls []) := by
  refine z_aload_n X hl 2 rfl rfl dL_law_676 ?_
  refine z_aload_n X hl 4 rfl rfl dL_law_677 ?_
  refine r_lawW (rest := []) X K g h (ct_L_run hst mc ms u  _ _ hw) lkW_run ⟨rfl, rfl⟩ ⟨Nat.le_trans (Nat.le_of_ble_eq_true rfl) hR.1, Nat.le_trans (Nat.le_of_ble_eq_true rfl) hR.2⟩ rfl (lv_size hl) rfl (Nat.le_of_ble_eq_true rfl) dL_law_678 hb (fun z w1 H locs hp h => ?_) (fun w1 H locs hp h => ?_)
  · obtain ⟨u', rfl, hp⟩ := hp
    have h : HW G A s.heap (LWd G a a' o u' v (vp_updL f 0 (Int32.ofInt z).toInt64)) H locs := h
    refine z_istore (i := 5) (lv' := [(5, zI 0), (4, zI (kn : Int)), (0, .ref b), (1, .ref (a 0)), (2, .ref (a' 0)), (3, .ref o)]) X hl (by decide) dL_law_681 rfl (fun ls hl => ?_)
    refine z_aload_n X hl 4 rfl rfl dL_law_683 ?_
    refine r_lawM (rest := []) X K g h (ct_X10_run v  _ hp) lk_L_117 ⟨rfl, rfl⟩ ⟨Nat.le_trans (Nat.le_of_ble_eq_true rfl) hR.1, Nat.le_trans (Nat.le_of_ble_eq_true rfl) hR.2⟩ rfl (lv_size hl) rfl (Nat.le_of_ble_eq_true rfl) dL_law_684 hb (fun z' v' H locs hq h => ?_)
    refine z_istore (i := 6) (lv' := [(6, zI z'), (5, zI 0), (4, zI (kn : Int)), (0, .ref b), (1, .ref (a 0)), (2, .ref (a' 0)), (3, .ref o)]) X hl (by decide) dL_law_687 rfl (fun ls hl => ?_)
    refine z_aload_n X hl 5 rfl rfl dL_law_689 ?_
    refine r_lawMp (rest := []) X K g h (ct_X10_thrown v' _ hq) lk_L_73 ⟨rfl, rfl⟩ ⟨Nat.le_trans (Nat.le_of_ble_eq_true rfl) hR.1, Nat.le_trans (Nat.le_of_ble_eq_true rfl) hR.2⟩ rfl (lv_size hl) rfl (Nat.le_of_ble_eq_true rfl) dL_law_690 hb (fun t H locs ht h => ?_)
    obtain ⟨rfl, rfl, hN⟩ := ht
    refine z_iload X hl 1 rfl dL_law_693 ?_
    refine lv_icmp_eq (tgt := 700) X.1 X.2.1 dL_law_695 (by decide) (fun _ => ?_) (fun h0 => absurd rfl h0)
    refine z_iload X hl 1 rfl dL_law_700 ?_
    refine lv_if_ne (tgt := 717) X.1 X.2.1 dL_law_702 (by decide) (fun h0 => absurd rfl h0) (fun _ => ?_)
    refine z_aload_n X hl 6 rfl rfl dL_law_705 ?_
    refine z_iconst X dL_law_706 ?_
    refine r_lald X K h dL_law_707 ?_
    refine z_iload X hl 0 rfl dL_law_708 ?_
    refine lv_i2l X.1 X.2.1 dL_law_710 rfl ?_
    refine W.lcmp X.1 X.2.1 dL_law_711 ?_
    rw [show vp_updL f 0 (Int32.ofInt z').toInt64 0 = (Int32.ofInt z').toInt64 from rfl, lg_cmp_rf]
    refine lv_if_eq (tgt := 717) X.1 X.2.1 dL_law_712 (by decide) (fun _ => ?_) (fun h0 => absurd rfl h0)
    refine z_goto (tgt := 1398) X dL_law_717 (by decide) ?_
    exact kk _ _ _ H locs ls hN (lv_sub hl [2, 3, 4, 5, 6] rfl) h
  · obtain ⟨u', rfl, hp⟩ := hp
    have h : HW G A s.heap (LWd G a a' o u' v f) H locs := h
    refine z_istore (i := 5) (lv' := [(5, zI 1), (4, zI (kn : Int)), (0, .ref b), (1, .ref (a 0)), (2, .ref (a' 0)), (3, .ref o)]) X hl (by decide) dL_law_681 rfl (fun ls hl => ?_)
    refine z_aload_n X hl 4 rfl rfl dL_law_683 ?_
    refine r_lawM (rest := []) X K g h (ct_X10_run v  _ hp) lk_L_117 ⟨rfl, rfl⟩ ⟨Nat.le_trans (Nat.le_of_ble_eq_true rfl) hR.1, Nat.le_trans (Nat.le_of_ble_eq_true rfl) hR.2⟩ rfl (lv_size hl) rfl (Nat.le_of_ble_eq_true rfl) dL_law_684 hb (fun z' v' H locs hq h => ?_)
    refine z_istore (i := 6) (lv' := [(6, zI z'), (5, zI 1), (4, zI (kn : Int)), (0, .ref b), (1, .ref (a 0)), (2, .ref (a' 0)), (3, .ref o)]) X hl (by decide) dL_law_687 rfl (fun ls hl => ?_)
    refine z_aload_n X hl 5 rfl rfl dL_law_689 ?_
    refine r_lawMp (rest := []) X K g h (ct_X10_thrown v' _ hq) lk_L_73 ⟨rfl, rfl⟩ ⟨Nat.le_trans (Nat.le_of_ble_eq_true rfl) hR.1, Nat.le_trans (Nat.le_of_ble_eq_true rfl) hR.2⟩ rfl (lv_size hl) rfl (Nat.le_of_ble_eq_true rfl) dL_law_690 hb (fun t H locs ht h => ?_)
    obtain ⟨rfl, hN⟩ := ht
    refine z_iload X hl 1 rfl dL_law_693 ?_
    refine lv_icmp_eq (tgt := 700) X.1 X.2.1 dL_law_695 (by decide) (fun _ => ?_) (fun h0 => absurd rfl h0)
    refine z_iload X hl 1 rfl dL_law_700 ?_
    refine lv_if_ne (tgt := 717) X.1 X.2.1 dL_law_702 (by decide) (fun _ => ?_) (fun h0 => absurd h0 (by decide))
    refine z_goto (tgt := 1398) X dL_law_717 (by decide) ?_
    exact kk _ _ _ H locs ls hN (lv_sub hl [2, 3, 4, 5, 6] rfl) h
theorem law_14 {p : Program} {l : Launch} {e : Env} {R : Room} {s : State} {m : MethodId} {args : Array Value} {below : List Frame} {meth : Method} {c : Code} {H : Heap} {locs : List Loc} {cells slots : Nat} {Q : State → Prop} {ls : Array Slot} {G : Gr} {A : Nat → Prop} {a a' : Nat → Nat} {o b L kn : Nat} {u v : St} {f : Nat → Int64} {xs : Nat → Int32} (hst : l.stackTraces = false) (hR : 40 ≤ R.frames ∧ 1300 ≤ R.locals) (X : CallFix p m c cL_law 9 s args lw_all RL) (K : KK G s) (g : Gd G A s s.heap) (hX : va_X b L xs s s.heap) (hbl : b < s.heap.size) (hbA : ¬ A b) (hL : L ≤ 3072) (hkn : kn + 6 ≤ L) (h : HW G A s.heap (LWd G a a' o u v f) H locs) (hl : lv_has ls 9 [(4, zI (kn : Int)), (0, .ref b), (1, .ref (a 0)), (2, .ref (a' 0)), (3, .ref o)]) (hb : cells ≤ R.cells ∧ slots ≤ R.slots) (N : St → St → Prop) (hw : w_X9_errorPosition (fun z => w_X10_errorPosition (fun z' v' => z' = z ∧ N u v') v) u)
    (kk : ∀ (u' v' : St) (f' : Nat → Int64) (H1 : Heap) (locs1 : List Loc) (ls1 : Array Slot), N u' v' → lv_has ls1 9 [(4, zI (kn : Int)), (0, .ref b), (1, .ref (a 0)), (2, .ref (a' 0)), (3, .ref o)] → HW G A s.heap (LWd G a a' o u' v' f') H1 locs1 → W p l e R s m args below meth c H1 locs1 (cells) (slots) Q (F0 m 1398 ls1 [])) : W p l e R s m args below meth c H locs cells slots Q (F0 m 720 ls []) := by
  refine z_aload_n X hl 2 rfl rfl dL_law_720 ?_
  refine r_lawCp (rest := []) X K g h (ct_X9_errorPosition u  _ hw) lk_L_118 ⟨rfl, rfl⟩ ⟨Nat.le_trans (Nat.le_of_ble_eq_true rfl) hR.1, Nat.le_trans (Nat.le_of_ble_eq_true rfl) hR.2⟩ rfl (lv_size hl) rfl (Nat.le_of_ble_eq_true rfl) dL_law_721 hb (fun z H locs hp h => ?_)
  refine z_aload_n X hl 3 rfl rfl dL_law_724 ?_
  refine r_lawM (rest := [zI z]) X K g h (ct_X10_errorPosition v  _ hp) lk_L_121 ⟨rfl, rfl⟩ ⟨Nat.le_trans (Nat.le_of_ble_eq_true rfl) hR.1, Nat.le_trans (Nat.le_of_ble_eq_true rfl) hR.2⟩ rfl (lv_size hl) rfl (Nat.le_of_ble_eq_true rfl) dL_law_725 hb (fun z' v' H locs hq h => ?_)
  obtain ⟨rfl, hN⟩ := hq
  refine lv_icmp_eq (tgt := 1398) X.1 X.2.1 dL_law_728 (by decide) (fun _ => ?_) (fun h0 => absurd rfl h0)
  exact kk _ _ _ H locs ls hN hl h
theorem law_15 {p : Program} {l : Launch} {e : Env} {R : Room} {s : State} {m : MethodId} {args : Array Value} {below : List Frame} {meth : Method} {c : Code} {H : Heap} {locs : List Loc} {cells slots : Nat} {Q : State → Prop} {ls : Array Slot} {G : Gr} {A : Nat → Prop} {a a' : Nat → Nat} {o b L kn : Nat} {u v : St} {f : Nat → Int64} {xs : Nat → Int32} (hst : l.stackTraces = false) (hR : 40 ≤ R.frames ∧ 1300 ≤ R.locals) (X : CallFix p m c cL_law 9 s args lw_all RL) (K : KK G s) (g : Gd G A s s.heap) (hX : va_X b L xs s s.heap) (hbl : b < s.heap.size) (hbA : ¬ A b) (hL : L ≤ 3072) (hkn : kn + 6 ≤ L) (h : HW G A s.heap (LWd G a a' o u v f) H locs) (hl : lv_has ls 9 [(4, zI (kn : Int)), (0, .ref b), (1, .ref (a 0)), (2, .ref (a' 0)), (3, .ref o)]) (hb : cells ≤ R.cells ∧ slots ≤ R.slots) (N : St → St → Prop) (hw : w_X9_endedBy (fun z => w_X10_endedBy (fun z' v' => z' = z ∧ N u v') v) u)
    (kk : ∀ (u' v' : St) (f' : Nat → Int64) (H1 : Heap) (locs1 : List Loc) (ls1 : Array Slot), N u' v' → lv_has ls1 9 [(4, zI (kn : Int)), (0, .ref b), (1, .ref (a 0)), (2, .ref (a' 0)), (3, .ref o)] → HW G A s.heap (LWd G a a' o u' v' f') H1 locs1 → W p l e R s m args below meth c H1 locs1 (cells) (slots) Q (F0 m 1398 ls1 [])) : W p l e R s m args below meth c H locs cells slots Q (F0 m 733 ls []) := by
  refine z_aload_n X hl 2 rfl rfl dL_law_733 ?_
  refine r_lawCp (rest := []) X K g h (ct_X9_endedBy u  _ hw) lk_L_122 ⟨rfl, rfl⟩ ⟨Nat.le_trans (Nat.le_of_ble_eq_true rfl) hR.1, Nat.le_trans (Nat.le_of_ble_eq_true rfl) hR.2⟩ rfl (lv_size hl) rfl (Nat.le_of_ble_eq_true rfl) dL_law_734 hb (fun z H locs hp h => ?_)
  refine z_aload_n X hl 3 rfl rfl dL_law_737 ?_
  refine r_lawM (rest := [zI z]) X K g h (ct_X10_endedBy v  _ hp) lk_L_125 ⟨rfl, rfl⟩ ⟨Nat.le_trans (Nat.le_of_ble_eq_true rfl) hR.1, Nat.le_trans (Nat.le_of_ble_eq_true rfl) hR.2⟩ rfl (lv_size hl) rfl (Nat.le_of_ble_eq_true rfl) dL_law_738 hb (fun z' v' H locs hq h => ?_)
  obtain ⟨rfl, hN⟩ := hq
  refine lv_icmp_eq (tgt := 1398) X.1 X.2.1 dL_law_741 (by decide) (fun _ => ?_) (fun h0 => absurd rfl h0)
  exact kk _ _ _ H locs ls hN hl h
theorem law_16 {p : Program} {l : Launch} {e : Env} {R : Room} {s : State} {m : MethodId} {args : Array Value} {below : List Frame} {meth : Method} {c : Code} {H : Heap} {locs : List Loc} {cells slots : Nat} {Q : State → Prop} {ls : Array Slot} {G : Gr} {A : Nat → Prop} {a a' : Nat → Nat} {o b L kn : Nat} {u v : St} {f : Nat → Int64} {xs : Nat → Int32} (hst : l.stackTraces = false) (hR : 40 ≤ R.frames ∧ 1300 ≤ R.locals) (X : CallFix p m c cL_law 9 s args lw_all RL) (K : KK G s) (g : Gd G A s s.heap) (hX : va_X b L xs s s.heap) (hbl : b < s.heap.size) (hbA : ¬ A b) (hL : L ≤ 3072) (hkn : kn + 6 ≤ L) (h : HW G A s.heap (LWd G a a' o u v f) H locs) (hl : lv_has ls 9 [(4, zI (kn : Int)), (0, .ref b), (1, .ref (a 0)), (2, .ref (a' 0)), (3, .ref o)]) (hb : cells ≤ R.cells ∧ slots ≤ R.slots) (N : St → St → Prop) (hw : w_X9_nextIndex (fun z => w_X10_nextIndex (fun z' v' => z' = z ∧ N u v') v) u)
    (kk : ∀ (u' v' : St) (f' : Nat → Int64) (H1 : Heap) (locs1 : List Loc) (ls1 : Array Slot), N u' v' → lv_has ls1 9 [(4, zI (kn : Int)), (0, .ref b), (1, .ref (a 0)), (2, .ref (a' 0)), (3, .ref o)] → HW G A s.heap (LWd G a a' o u' v' f') H1 locs1 → W p l e R s m args below meth c H1 locs1 (cells) (slots) Q (F0 m 1398 ls1 [])) : W p l e R s m args below meth c H locs cells slots Q (F0 m 746 ls []) := by
  refine z_aload_n X hl 2 rfl rfl dL_law_746 ?_
  refine r_lawCp (rest := []) X K g h (ct_X9_nextIndex u  _ hw) lk_L_126 ⟨rfl, rfl⟩ ⟨Nat.le_trans (Nat.le_of_ble_eq_true rfl) hR.1, Nat.le_trans (Nat.le_of_ble_eq_true rfl) hR.2⟩ rfl (lv_size hl) rfl (Nat.le_of_ble_eq_true rfl) dL_law_747 hb (fun z H locs hp h => ?_)
  refine z_aload_n X hl 3 rfl rfl dL_law_750 ?_
  refine r_lawM (rest := [zI z]) X K g h (ct_X10_nextIndex v  _ hp) lk_L_129 ⟨rfl, rfl⟩ ⟨Nat.le_trans (Nat.le_of_ble_eq_true rfl) hR.1, Nat.le_trans (Nat.le_of_ble_eq_true rfl) hR.2⟩ rfl (lv_size hl) rfl (Nat.le_of_ble_eq_true rfl) dL_law_751 hb (fun z' v' H locs hq h => ?_)
  obtain ⟨rfl, hN⟩ := hq
  refine lv_icmp_eq (tgt := 1398) X.1 X.2.1 dL_law_754 (by decide) (fun _ => ?_) (fun h0 => absurd rfl h0)
  exact kk _ _ _ H locs ls hN hl h
theorem law_17 {p : Program} {l : Launch} {e : Env} {R : Room} {s : State} {m : MethodId} {args : Array Value} {below : List Frame} {meth : Method} {c : Code} {H : Heap} {locs : List Loc} {cells slots : Nat} {Q : State → Prop} {ls : Array Slot} {G : Gr} {A : Nat → Prop} {a a' : Nat → Nat} {o b L kn : Nat} {u v : St} {f : Nat → Int64} {xs : Nat → Int32} (hst : l.stackTraces = false) (hR : 40 ≤ R.frames ∧ 1300 ≤ R.locals) (X : CallFix p m c cL_law 9 s args lw_all RL) (K : KK G s) (g : Gd G A s s.heap) (hX : va_X b L xs s s.heap) (hbl : b < s.heap.size) (hbA : ¬ A b) (hL : L ≤ 3072) (hkn : kn + 6 ≤ L) (h : HW G A s.heap (LWd G a a' o u v f) H locs) (hl : lv_has ls 9 [(4, zI (kn : Int)), (0, .ref b), (1, .ref (a 0)), (2, .ref (a' 0)), (3, .ref o)]) (hb : cells ≤ R.cells ∧ slots ≤ R.slots) (N : St → St → Prop) (hw : w_X9_previousIndex (fun z => w_X10_previousIndex (fun z' v' => z' = z ∧ N u v') v) u)
    (kk : ∀ (u' v' : St) (f' : Nat → Int64) (H1 : Heap) (locs1 : List Loc) (ls1 : Array Slot), N u' v' → lv_has ls1 9 [(4, zI (kn : Int)), (0, .ref b), (1, .ref (a 0)), (2, .ref (a' 0)), (3, .ref o)] → HW G A s.heap (LWd G a a' o u' v' f') H1 locs1 → W p l e R s m args below meth c H1 locs1 (cells) (slots) Q (F0 m 1398 ls1 [])) : W p l e R s m args below meth c H locs cells slots Q (F0 m 759 ls []) := by
  refine z_aload_n X hl 2 rfl rfl dL_law_759 ?_
  refine r_lawCp (rest := []) X K g h (ct_X9_previousIndex u  _ hw) lk_L_130 ⟨rfl, rfl⟩ ⟨Nat.le_trans (Nat.le_of_ble_eq_true rfl) hR.1, Nat.le_trans (Nat.le_of_ble_eq_true rfl) hR.2⟩ rfl (lv_size hl) rfl (Nat.le_of_ble_eq_true rfl) dL_law_760 hb (fun z H locs hp h => ?_)
  refine z_aload_n X hl 3 rfl rfl dL_law_763 ?_
  refine r_lawM (rest := [zI z]) X K g h (ct_X10_previousIndex v  _ hp) lk_L_133 ⟨rfl, rfl⟩ ⟨Nat.le_trans (Nat.le_of_ble_eq_true rfl) hR.1, Nat.le_trans (Nat.le_of_ble_eq_true rfl) hR.2⟩ rfl (lv_size hl) rfl (Nat.le_of_ble_eq_true rfl) dL_law_764 hb (fun z' v' H locs hq h => ?_)
  obtain ⟨rfl, hN⟩ := hq
  refine lv_icmp_eq (tgt := 1398) X.1 X.2.1 dL_law_767 (by decide) (fun _ => ?_) (fun h0 => absurd rfl h0)
  exact kk _ _ _ H locs ls hN hl h
theorem law_18 {p : Program} {l : Launch} {e : Env} {R : Room} {s : State} {m : MethodId} {args : Array Value} {below : List Frame} {meth : Method} {c : Code} {H : Heap} {locs : List Loc} {cells slots : Nat} {Q : State → Prop} {ls : Array Slot} {G : Gr} {A : Nat → Prop} {a a' : Nat → Nat} {o b L kn : Nat} {u v : St} {f : Nat → Int64} {xs : Nat → Int32} (hst : l.stackTraces = false) (hR : 40 ≤ R.frames ∧ 1300 ≤ R.locals) (X : CallFix p m c cL_law 9 s args lw_all RL) (K : KK G s) (g : Gd G A s s.heap) (hX : va_X b L xs s s.heap) (hbl : b < s.heap.size) (hbA : ¬ A b) (hL : L ≤ 3072) (hkn : kn + 6 ≤ L) (h : HW G A s.heap (LWd G a a' o u v f) H locs) (hl : lv_has ls 9 [(4, zI (kn : Int)), (0, .ref b), (1, .ref (a 0)), (2, .ref (a' 0)), (3, .ref o)]) (hb : cells ≤ R.cells ∧ slots ≤ R.slots) (N : St → St → Prop) (hw : w_X9_hasNext (fun z => w_X10_hasNext (fun z' v' => z' = z ∧ N u v') v) u)
    (kk : ∀ (u' v' : St) (f' : Nat → Int64) (H1 : Heap) (locs1 : List Loc) (ls1 : Array Slot), N u' v' → lv_has ls1 9 [(4, zI (kn : Int)), (0, .ref b), (1, .ref (a 0)), (2, .ref (a' 0)), (3, .ref o)] → HW G A s.heap (LWd G a a' o u' v' f') H1 locs1 → W p l e R s m args below meth c H1 locs1 (cells) (slots) Q (F0 m 1398 ls1 [])) : W p l e R s m args below meth c H locs cells slots Q (F0 m 772 ls []) := by
  refine z_aload_n X hl 2 rfl rfl dL_law_772 ?_
  refine r_lawCp (rest := []) X K g h (ct_X9_hasNext u  _ hw) lk_L_134 ⟨rfl, rfl⟩ ⟨Nat.le_trans (Nat.le_of_ble_eq_true rfl) hR.1, Nat.le_trans (Nat.le_of_ble_eq_true rfl) hR.2⟩ rfl (lv_size hl) rfl (Nat.le_of_ble_eq_true rfl) dL_law_773 hb (fun z H locs hp h => ?_)
  refine z_aload_n X hl 3 rfl rfl dL_law_776 ?_
  refine r_lawM (rest := [zI z]) X K g h (ct_X10_hasNext v  _ hp) lk_L_138 ⟨rfl, rfl⟩ ⟨Nat.le_trans (Nat.le_of_ble_eq_true rfl) hR.1, Nat.le_trans (Nat.le_of_ble_eq_true rfl) hR.2⟩ rfl (lv_size hl) rfl (Nat.le_of_ble_eq_true rfl) dL_law_777 hb (fun z' v' H locs hq h => ?_)
  obtain ⟨rfl, hN⟩ := hq
  refine lv_icmp_eq (tgt := 1398) X.1 X.2.1 dL_law_780 (by decide) (fun _ => ?_) (fun h0 => absurd rfl h0)
  exact kk _ _ _ H locs ls hN hl h
theorem law_19 {p : Program} {l : Launch} {e : Env} {R : Room} {s : State} {m : MethodId} {args : Array Value} {below : List Frame} {meth : Method} {c : Code} {H : Heap} {locs : List Loc} {cells slots : Nat} {Q : State → Prop} {ls : Array Slot} {G : Gr} {A : Nat → Prop} {a a' : Nat → Nat} {o b L kn : Nat} {u v : St} {f : Nat → Int64} {xs : Nat → Int32} (hst : l.stackTraces = false) (hR : 40 ≤ R.frames ∧ 1300 ≤ R.locals) (X : CallFix p m c cL_law 9 s args lw_all RL) (K : KK G s) (g : Gd G A s s.heap) (hX : va_X b L xs s s.heap) (hbl : b < s.heap.size) (hbA : ¬ A b) (hL : L ≤ 3072) (hkn : kn + 6 ≤ L) (h : HW G A s.heap (LWd G a a' o u v f) H locs) (hl : lv_has ls 9 [(4, zI (kn : Int)), (0, .ref b), (1, .ref (a 0)), (2, .ref (a' 0)), (3, .ref o)]) (hb : cells ≤ R.cells ∧ slots ≤ R.slots) (N : St → St → Prop) (hw : w_X9_hasPrevious (fun z => w_X10_hasPrevious (fun z' v' => z' = z ∧ N u v') v) u)
    (kk : ∀ (u' v' : St) (f' : Nat → Int64) (H1 : Heap) (locs1 : List Loc) (ls1 : Array Slot), N u' v' → lv_has ls1 9 [(4, zI (kn : Int)), (0, .ref b), (1, .ref (a 0)), (2, .ref (a' 0)), (3, .ref o)] → HW G A s.heap (LWd G a a' o u' v' f') H1 locs1 → W p l e R s m args below meth c H1 locs1 (cells) (slots) Q (F0 m 1398 ls1 [])) : W p l e R s m args below meth c H locs cells slots Q (F0 m 785 ls []) := by
  refine z_aload_n X hl 2 rfl rfl dL_law_785 ?_
  refine r_lawCp (rest := []) X K g h (ct_X9_hasPrevious u  _ hw) lk_L_139 ⟨rfl, rfl⟩ ⟨Nat.le_trans (Nat.le_of_ble_eq_true rfl) hR.1, Nat.le_trans (Nat.le_of_ble_eq_true rfl) hR.2⟩ rfl (lv_size hl) rfl (Nat.le_of_ble_eq_true rfl) dL_law_786 hb (fun z H locs hp h => ?_)
  refine z_aload_n X hl 3 rfl rfl dL_law_789 ?_
  refine r_lawM (rest := [zI z]) X K g h (ct_X10_hasPrevious v  _ hp) lk_L_142 ⟨rfl, rfl⟩ ⟨Nat.le_trans (Nat.le_of_ble_eq_true rfl) hR.1, Nat.le_trans (Nat.le_of_ble_eq_true rfl) hR.2⟩ rfl (lv_size hl) rfl (Nat.le_of_ble_eq_true rfl) dL_law_790 hb (fun z' v' H locs hq h => ?_)
  obtain ⟨rfl, hN⟩ := hq
  refine lv_icmp_eq (tgt := 1398) X.1 X.2.1 dL_law_793 (by decide) (fun _ => ?_) (fun h0 => absurd rfl h0)
  exact kk _ _ _ H locs ls hN hl h
theorem law_20 {p : Program} {l : Launch} {e : Env} {R : Room} {s : State} {m : MethodId} {args : Array Value} {below : List Frame} {meth : Method} {c : Code} {H : Heap} {locs : List Loc} {cells slots : Nat} {Q : State → Prop} {ls : Array Slot} {G : Gr} {A : Nat → Prop} {a a' : Nat → Nat} {o b L kn : Nat} {u v : St} {f : Nat → Int64} {xs : Nat → Int32} (hst : l.stackTraces = false) (hR : 40 ≤ R.frames ∧ 1300 ≤ R.locals) (X : CallFix p m c cL_law 9 s args lw_all RL) (K : KK G s) (g : Gd G A s s.heap) (hX : va_X b L xs s s.heap) (hbl : b < s.heap.size) (hbA : ¬ A b) (hL : L ≤ 3072) (hkn : kn + 6 ≤ L) (h : HW G A s.heap (LWd G a a' o u v f) H locs) (hl : lv_has ls 9 [(4, zI (kn : Int)), (0, .ref b), (1, .ref (a 0)), (2, .ref (a' 0)), (3, .ref o)]) (hb : cells ≤ R.cells ∧ slots ≤ R.slots) (N : St → St → Prop) (hw : w_X9_ahead (fun z => w_X10_ahead (fun z' v' => z' = z ∧ N u v') v (xs (kn + 1)).toInt) u (xs (kn + 1)).toInt)
    (kk : ∀ (u' v' : St) (f' : Nat → Int64) (H1 : Heap) (locs1 : List Loc) (ls1 : Array Slot), N u' v' → lv_has ls1 9 [(4, zI (kn : Int)), (0, .ref b), (1, .ref (a 0)), (2, .ref (a' 0)), (3, .ref o)] → HW G A s.heap (LWd G a a' o u' v' f') H1 locs1 → W p l e R s m args below meth c H1 locs1 (cells) (slots) Q (F0 m 1398 ls1 [])) : W p l e R s m args below meth c H locs cells slots Q (F0 m 798 ls []) := by
  refine z_aload_n X hl 2 rfl rfl dL_law_798 ?_
  refine z_aload_n X hl 1 rfl rfl dL_law_799 ?_
  refine z_iload X hl 0 rfl dL_law_800 ?_
  refine z_iconst X dL_law_802 ?_
  refine z_iadd X dL_law_803 ?_
  refine r_scr (j := kn + 1) X h hX hbl hbA (by omega) (by omega) hL dL_law_804 ?_
  refine r_lawCp (rest := []) X K g h (ct_X9_ahead u ((xs (kn + 1)).toInt) _ hw) lk_L_143 ⟨rfl, rfl⟩ ⟨Nat.le_trans (Nat.le_of_ble_eq_true rfl) hR.1, Nat.le_trans (Nat.le_of_ble_eq_true rfl) hR.2⟩ rfl (lv_size hl) rfl (Nat.le_of_ble_eq_true rfl) dL_law_805 hb (fun z H locs hp h => ?_)
  refine z_aload_n X hl 3 rfl rfl dL_law_808 ?_
  refine z_aload_n X hl 1 rfl rfl dL_law_809 ?_
  refine z_iload X hl 0 rfl dL_law_810 ?_
  refine z_iconst X dL_law_812 ?_
  refine z_iadd X dL_law_813 ?_
  refine r_scr (j := kn + 1) X h hX hbl hbA (by omega) (by omega) hL dL_law_814 ?_
  refine r_lawM (rest := [zI z]) X K g h (ct_X10_ahead v ((xs (kn + 1)).toInt) _ hp) lk_L_146 ⟨rfl, rfl⟩ ⟨Nat.le_trans (Nat.le_of_ble_eq_true rfl) hR.1, Nat.le_trans (Nat.le_of_ble_eq_true rfl) hR.2⟩ rfl (lv_size hl) rfl (Nat.le_of_ble_eq_true rfl) dL_law_815 hb (fun z' v' H locs hq h => ?_)
  obtain ⟨rfl, hN⟩ := hq
  refine lv_icmp_eq (tgt := 1398) X.1 X.2.1 dL_law_818 (by decide) (fun _ => ?_) (fun h0 => absurd rfl h0)
  exact kk _ _ _ H locs ls hN hl h
theorem law_21 {p : Program} {l : Launch} {e : Env} {R : Room} {s : State} {m : MethodId} {args : Array Value} {below : List Frame} {meth : Method} {c : Code} {H : Heap} {locs : List Loc} {cells slots : Nat} {Q : State → Prop} {ls : Array Slot} {G : Gr} {A : Nat → Prop} {a a' : Nat → Nat} {o b L kn : Nat} {u v : St} {f : Nat → Int64} {xs : Nat → Int32} (hst : l.stackTraces = false) (hR : 40 ≤ R.frames ∧ 1300 ≤ R.locals) (X : CallFix p m c cL_law 9 s args lw_all RL) (K : KK G s) (g : Gd G A s s.heap) (hX : va_X b L xs s s.heap) (hbl : b < s.heap.size) (hbA : ¬ A b) (hL : L ≤ 3072) (hkn : kn + 6 ≤ L) (h : HW G A s.heap (LWd G a a' o u v f) H locs) (hl : lv_has ls 9 [(4, zI (kn : Int)), (0, .ref b), (1, .ref (a 0)), (2, .ref (a' 0)), (3, .ref o)]) (hb : cells ≤ R.cells ∧ slots ≤ R.slots) (N : St → St → Prop) (hw : w_X9_behind (fun z => w_X10_behind (fun z' v' => z' = z ∧ N u v') v (xs (kn + 1)).toInt) u (xs (kn + 1)).toInt)
    (kk : ∀ (u' v' : St) (f' : Nat → Int64) (H1 : Heap) (locs1 : List Loc) (ls1 : Array Slot), N u' v' → lv_has ls1 9 [(4, zI (kn : Int)), (0, .ref b), (1, .ref (a 0)), (2, .ref (a' 0)), (3, .ref o)] → HW G A s.heap (LWd G a a' o u' v' f') H1 locs1 → W p l e R s m args below meth c H1 locs1 (cells) (slots) Q (F0 m 1398 ls1 [])) : W p l e R s m args below meth c H locs cells slots Q (F0 m 823 ls []) := by
  refine z_aload_n X hl 2 rfl rfl dL_law_823 ?_
  refine z_aload_n X hl 1 rfl rfl dL_law_824 ?_
  refine z_iload X hl 0 rfl dL_law_825 ?_
  refine z_iconst X dL_law_827 ?_
  refine z_iadd X dL_law_828 ?_
  refine r_scr (j := kn + 1) X h hX hbl hbA (by omega) (by omega) hL dL_law_829 ?_
  refine r_lawCp (rest := []) X K g h (ct_X9_behind u ((xs (kn + 1)).toInt) _ hw) lk_L_147 ⟨rfl, rfl⟩ ⟨Nat.le_trans (Nat.le_of_ble_eq_true rfl) hR.1, Nat.le_trans (Nat.le_of_ble_eq_true rfl) hR.2⟩ rfl (lv_size hl) rfl (Nat.le_of_ble_eq_true rfl) dL_law_830 hb (fun z H locs hp h => ?_)
  refine z_aload_n X hl 3 rfl rfl dL_law_833 ?_
  refine z_aload_n X hl 1 rfl rfl dL_law_834 ?_
  refine z_iload X hl 0 rfl dL_law_835 ?_
  refine z_iconst X dL_law_837 ?_
  refine z_iadd X dL_law_838 ?_
  refine r_scr (j := kn + 1) X h hX hbl hbA (by omega) (by omega) hL dL_law_839 ?_
  refine r_lawM (rest := [zI z]) X K g h (ct_X10_behind v ((xs (kn + 1)).toInt) _ hp) lk_L_150 ⟨rfl, rfl⟩ ⟨Nat.le_trans (Nat.le_of_ble_eq_true rfl) hR.1, Nat.le_trans (Nat.le_of_ble_eq_true rfl) hR.2⟩ rfl (lv_size hl) rfl (Nat.le_of_ble_eq_true rfl) dL_law_840 hb (fun z' v' H locs hq h => ?_)
  obtain ⟨rfl, hN⟩ := hq
  refine lv_icmp_eq (tgt := 1398) X.1 X.2.1 dL_law_843 (by decide) (fun _ => ?_) (fun h0 => absurd rfl h0)
  exact kk _ _ _ H locs ls hN hl h
theorem law_22 {p : Program} {l : Launch} {e : Env} {R : Room} {s : State} {m : MethodId} {args : Array Value} {below : List Frame} {meth : Method} {c : Code} {H : Heap} {locs : List Loc} {cells slots : Nat} {Q : State → Prop} {ls : Array Slot} {G : Gr} {A : Nat → Prop} {a a' : Nat → Nat} {o b L kn : Nat} {u v : St} {f : Nat → Int64} {xs : Nat → Int32} (hst : l.stackTraces = false) (hR : 40 ≤ R.frames ∧ 1300 ≤ R.locals) (X : CallFix p m c cL_law 9 s args lw_all RL) (K : KK G s) (g : Gd G A s s.heap) (hX : va_X b L xs s s.heap) (hbl : b < s.heap.size) (hbA : ¬ A b) (hL : L ≤ 3072) (hkn : kn + 6 ≤ L) (h : HW G A s.heap (LWd G a a' o u v f) H locs) (hl : lv_has ls 9 [(4, zI (kn : Int)), (0, .ref b), (1, .ref (a 0)), (2, .ref (a' 0)), (3, .ref o)]) (hb : cells ≤ R.cells ∧ slots ≤ R.slots) (N : St → St → Prop) (hw : w_X9_given (fun z => w_X10_given (fun z' v' => z' = z ∧ N u v') v) u)
    (kk : ∀ (u' v' : St) (f' : Nat → Int64) (H1 : Heap) (locs1 : List Loc) (ls1 : Array Slot), N u' v' → lv_has ls1 9 [(4, zI (kn : Int)), (0, .ref b), (1, .ref (a 0)), (2, .ref (a' 0)), (3, .ref o)] → HW G A s.heap (LWd G a a' o u' v' f') H1 locs1 → W p l e R s m args below meth c H1 locs1 (cells) (slots) Q (F0 m 1398 ls1 [])) : W p l e R s m args below meth c H locs cells slots Q (F0 m 848 ls []) := by
  refine z_aload_n X hl 2 rfl rfl dL_law_848 ?_
  refine r_lawCp (rest := []) X K g h (ct_X9_given u  _ hw) lk_L_151 ⟨rfl, rfl⟩ ⟨Nat.le_trans (Nat.le_of_ble_eq_true rfl) hR.1, Nat.le_trans (Nat.le_of_ble_eq_true rfl) hR.2⟩ rfl (lv_size hl) rfl (Nat.le_of_ble_eq_true rfl) dL_law_849 hb (fun z H locs hp h => ?_)
  refine z_aload_n X hl 3 rfl rfl dL_law_852 ?_
  refine r_lawM (rest := [zI z]) X K g h (ct_X10_given v  _ hp) lk_L_154 ⟨rfl, rfl⟩ ⟨Nat.le_trans (Nat.le_of_ble_eq_true rfl) hR.1, Nat.le_trans (Nat.le_of_ble_eq_true rfl) hR.2⟩ rfl (lv_size hl) rfl (Nat.le_of_ble_eq_true rfl) dL_law_853 hb (fun z' v' H locs hq h => ?_)
  obtain ⟨rfl, hN⟩ := hq
  refine lv_icmp_eq (tgt := 1398) X.1 X.2.1 dL_law_856 (by decide) (fun _ => ?_) (fun h0 => absurd rfl h0)
  exact kk _ _ _ H locs ls hN hl h
theorem law_23 {p : Program} {l : Launch} {e : Env} {R : Room} {s : State} {m : MethodId} {args : Array Value} {below : List Frame} {meth : Method} {c : Code} {H : Heap} {locs : List Loc} {cells slots : Nat} {Q : State → Prop} {ls : Array Slot} {G : Gr} {A : Nat → Prop} {a a' : Nat → Nat} {o b L kn : Nat} {u v : St} {f : Nat → Int64} {xs : Nat → Int32} (hst : l.stackTraces = false) (hR : 40 ≤ R.frames ∧ 1300 ≤ R.locals) (X : CallFix p m c cL_law 9 s args lw_all RL) (K : KK G s) (g : Gd G A s s.heap) (hX : va_X b L xs s s.heap) (hbl : b < s.heap.size) (hbA : ¬ A b) (hL : L ≤ 3072) (hkn : kn + 6 ≤ L) (h : HW G A s.heap (LWd G a a' o u v f) H locs) (hl : lv_has ls 9 [(4, zI (kn : Int)), (0, .ref b), (1, .ref (a 0)), (2, .ref (a' 0)), (3, .ref o)]) (hb : cells ≤ R.cells ∧ slots ≤ R.slots) (N : St → St → Prop) (hw : w_X9_givenBy (fun z => w_X10_givenBy (fun z' v' => z' = z ∧ N u v') v) u)
    (kk : ∀ (u' v' : St) (f' : Nat → Int64) (H1 : Heap) (locs1 : List Loc) (ls1 : Array Slot), N u' v' → lv_has ls1 9 [(4, zI (kn : Int)), (0, .ref b), (1, .ref (a 0)), (2, .ref (a' 0)), (3, .ref o)] → HW G A s.heap (LWd G a a' o u' v' f') H1 locs1 → W p l e R s m args below meth c H1 locs1 (cells) (slots) Q (F0 m 1398 ls1 [])) : W p l e R s m args below meth c H locs cells slots Q (F0 m 861 ls []) := by
  refine z_aload_n X hl 2 rfl rfl dL_law_861 ?_
  refine r_lawCp (rest := []) X K g h (ct_X9_givenBy u  _ hw) lk_L_155 ⟨rfl, rfl⟩ ⟨Nat.le_trans (Nat.le_of_ble_eq_true rfl) hR.1, Nat.le_trans (Nat.le_of_ble_eq_true rfl) hR.2⟩ rfl (lv_size hl) rfl (Nat.le_of_ble_eq_true rfl) dL_law_862 hb (fun z H locs hp h => ?_)
  refine z_aload_n X hl 3 rfl rfl dL_law_865 ?_
  refine r_lawM (rest := [zI z]) X K g h (ct_X10_givenBy v  _ hp) lk_L_158 ⟨rfl, rfl⟩ ⟨Nat.le_trans (Nat.le_of_ble_eq_true rfl) hR.1, Nat.le_trans (Nat.le_of_ble_eq_true rfl) hR.2⟩ rfl (lv_size hl) rfl (Nat.le_of_ble_eq_true rfl) dL_law_866 hb (fun z' v' H locs hq h => ?_)
  obtain ⟨rfl, hN⟩ := hq
  refine lv_icmp_eq (tgt := 1398) X.1 X.2.1 dL_law_869 (by decide) (fun _ => ?_) (fun h0 => absurd rfl h0)
  exact kk _ _ _ H locs ls hN hl h
theorem law_24 {p : Program} {l : Launch} {e : Env} {R : Room} {s : State} {m : MethodId} {args : Array Value} {below : List Frame} {meth : Method} {c : Code} {H : Heap} {locs : List Loc} {cells slots : Nat} {Q : State → Prop} {ls : Array Slot} {G : Gr} {A : Nat → Prop} {a a' : Nat → Nat} {o b L kn : Nat} {u v : St} {f : Nat → Int64} {xs : Nat → Int32} (hst : l.stackTraces = false) (hR : 40 ≤ R.frames ∧ 1300 ≤ R.locals) (X : CallFix p m c cL_law 9 s args lw_all RL) (K : KK G s) (g : Gd G A s s.heap) (hX : va_X b L xs s s.heap) (hbl : b < s.heap.size) (hbA : ¬ A b) (hL : L ≤ 3072) (hkn : kn + 6 ≤ L) (h : HW G A s.heap (LWd G a a' o u v f) H locs) (hl : lv_has ls 9 [(4, zI (kn : Int)), (0, .ref b), (1, .ref (a 0)), (2, .ref (a' 0)), (3, .ref o)]) (hb : cells ≤ R.cells ∧ slots ≤ R.slots) (N : St → St → Prop) (hw : w_X9_refusedNow (fun z => w_X10_refusedNow (fun z' v' => z' = z ∧ N u v') v) u)
    (kk : ∀ (u' v' : St) (f' : Nat → Int64) (H1 : Heap) (locs1 : List Loc) (ls1 : Array Slot), N u' v' → lv_has ls1 9 [(4, zI (kn : Int)), (0, .ref b), (1, .ref (a 0)), (2, .ref (a' 0)), (3, .ref o)] → HW G A s.heap (LWd G a a' o u' v' f') H1 locs1 → W p l e R s m args below meth c H1 locs1 (cells) (slots) Q (F0 m 1398 ls1 [])) : W p l e R s m args below meth c H locs cells slots Q (F0 m 874 ls []) := by
  refine z_aload_n X hl 2 rfl rfl dL_law_874 ?_
  refine r_lawCp (rest := []) X K g h (ct_X9_refusedNow u  _ hw) lk_L_159 ⟨rfl, rfl⟩ ⟨Nat.le_trans (Nat.le_of_ble_eq_true rfl) hR.1, Nat.le_trans (Nat.le_of_ble_eq_true rfl) hR.2⟩ rfl (lv_size hl) rfl (Nat.le_of_ble_eq_true rfl) dL_law_875 hb (fun z H locs hp h => ?_)
  refine z_aload_n X hl 3 rfl rfl dL_law_878 ?_
  refine r_lawM (rest := [zI z]) X K g h (ct_X10_refusedNow v  _ hp) lk_L_162 ⟨rfl, rfl⟩ ⟨Nat.le_trans (Nat.le_of_ble_eq_true rfl) hR.1, Nat.le_trans (Nat.le_of_ble_eq_true rfl) hR.2⟩ rfl (lv_size hl) rfl (Nat.le_of_ble_eq_true rfl) dL_law_879 hb (fun z' v' H locs hq h => ?_)
  obtain ⟨rfl, hN⟩ := hq
  refine lv_icmp_eq (tgt := 1398) X.1 X.2.1 dL_law_882 (by decide) (fun _ => ?_) (fun h0 => absurd rfl h0)
  exact kk _ _ _ H locs ls hN hl h
theorem law_25 {p : Program} {l : Launch} {e : Env} {R : Room} {s : State} {m : MethodId} {args : Array Value} {below : List Frame} {meth : Method} {c : Code} {H : Heap} {locs : List Loc} {cells slots : Nat} {Q : State → Prop} {ls : Array Slot} {G : Gr} {A : Nat → Prop} {a a' : Nat → Nat} {o b L kn : Nat} {u v : St} {f : Nat → Int64} {xs : Nat → Int32} (hst : l.stackTraces = false) (hR : 40 ≤ R.frames ∧ 1300 ≤ R.locals) (X : CallFix p m c cL_law 9 s args lw_all RL) (K : KK G s) (g : Gd G A s s.heap) (hX : va_X b L xs s s.heap) (hbl : b < s.heap.size) (hbA : ¬ A b) (hL : L ≤ 3072) (hkn : kn + 6 ≤ L) (h : HW G A s.heap (LWd G a a' o u v f) H locs) (hl : lv_has ls 9 [(4, zI (kn : Int)), (0, .ref b), (1, .ref (a 0)), (2, .ref (a' 0)), (3, .ref o)]) (hb : cells ≤ R.cells ∧ slots ≤ R.slots) (N : St → St → Prop) (hw : w_X9_size (fun z => w_X10_size (fun z' v' => z' = z ∧ N u v') v) u)
    (kk : ∀ (u' v' : St) (f' : Nat → Int64) (H1 : Heap) (locs1 : List Loc) (ls1 : Array Slot), N u' v' → lv_has ls1 9 [(4, zI (kn : Int)), (0, .ref b), (1, .ref (a 0)), (2, .ref (a' 0)), (3, .ref o)] → HW G A s.heap (LWd G a a' o u' v' f') H1 locs1 → W p l e R s m args below meth c H1 locs1 (cells) (slots) Q (F0 m 1398 ls1 [])) : W p l e R s m args below meth c H locs cells slots Q (F0 m 887 ls []) := by
  refine z_aload_n X hl 2 rfl rfl dL_law_887 ?_
  refine r_lawCp (rest := []) X K g h (ct_X9_size u  _ hw) lk_L_163 ⟨rfl, rfl⟩ ⟨Nat.le_trans (Nat.le_of_ble_eq_true rfl) hR.1, Nat.le_trans (Nat.le_of_ble_eq_true rfl) hR.2⟩ rfl (lv_size hl) rfl (Nat.le_of_ble_eq_true rfl) dL_law_888 hb (fun z H locs hp h => ?_)
  refine z_aload_n X hl 3 rfl rfl dL_law_891 ?_
  refine r_lawM (rest := [zI z]) X K g h (ct_X10_size v  _ hp) lk_L_166 ⟨rfl, rfl⟩ ⟨Nat.le_trans (Nat.le_of_ble_eq_true rfl) hR.1, Nat.le_trans (Nat.le_of_ble_eq_true rfl) hR.2⟩ rfl (lv_size hl) rfl (Nat.le_of_ble_eq_true rfl) dL_law_892 hb (fun z' v' H locs hq h => ?_)
  obtain ⟨rfl, hN⟩ := hq
  refine lv_icmp_eq (tgt := 1398) X.1 X.2.1 dL_law_895 (by decide) (fun _ => ?_) (fun h0 => absurd rfl h0)
  exact kk _ _ _ H locs ls hN hl h
theorem law_26 {p : Program} {l : Launch} {e : Env} {R : Room} {s : State} {m : MethodId} {args : Array Value} {below : List Frame} {meth : Method} {c : Code} {H : Heap} {locs : List Loc} {cells slots : Nat} {Q : State → Prop} {ls : Array Slot} {G : Gr} {A : Nat → Prop} {a a' : Nat → Nat} {o b L kn : Nat} {u v : St} {f : Nat → Int64} {xs : Nat → Int32} {mc ms : Nat} (hst : l.stackTraces = false) (hR : 40 ≤ R.frames ∧ 1300 ≤ R.locals) (X : CallFix p m c cL_law 9 s args lw_all RL) (K : KK G s) (g : Gd G A s s.heap) (hX : va_X b L xs s s.heap) (hbl : b < s.heap.size) (hbA : ¬ A b) (hL : L ≤ 3072) (hkn : kn + 6 ≤ L) (h : HW G A s.heap (LWd G a a' o u v f) H locs) (hl : lv_has ls 9 [(4, zI (kn : Int)), (0, .ref b), (1, .ref (a 0)), (2, .ref (a' 0)), (3, .ref o)]) (hb : cells + mc ≤ R.cells ∧ slots + ms ≤ R.slots) (N : St → St → Prop) (hw : w_X9_wordAt (fun z => w_X10_wordAt (fun z' v' => w_X10_thrown (fun t => t = 0 ∧ z' = z ∧ N u v') v') v (xs (kn + 1)).toInt) (w_X10_wordAt (fun z' v' => w_X10_thrown (fun t => t = 1 ∧ N u v') v') v (xs (kn + 1)).toInt) mc ms u (xs (kn + 1)).toInt)
    (kk : ∀ (u' v' : St) (f' : Nat → Int64) (H1 : Heap) (locs1 : List Loc) (ls1 : Array Slot), N u' v' → lv_has ls1 9 [(4, zI (kn : Int)), (0, .ref b), (1, .ref (a 0)), (2, .ref (a' 0)), (3, .ref o)] → HW G A s.heap (LWd G a a' o u' v' f') H1 locs1 → W p l e R s m args below meth c H1 locs1 (cells + mc) (slots + ms) Q (F0 m 1398 ls1 [])) : W p l e R s m args below meth c H locs cells slots Q (F0 m 900 ls []) := by
  refine z_aload_n X hl 2 rfl rfl dL_law_900 ?_
  refine z_aload_n X hl 1 rfl rfl dL_law_901 ?_
  refine z_iload X hl 0 rfl dL_law_902 ?_
  refine z_iconst X dL_law_904 ?_
  refine z_iadd X dL_law_905 ?_
  refine r_scr (j := kn + 1) X h hX hbl hbA (by omega) (by omega) hL dL_law_906 ?_
  refine z_aload_n X hl 4 rfl rfl dL_law_907 ?_
  refine r_lawW (rest := []) X K g h (ct_L_wordAt hst mc ms u ((xs (kn + 1)).toInt) _ _ hw) lkW_wordAt ⟨rfl, rfl⟩ ⟨Nat.le_trans (Nat.le_of_ble_eq_true rfl) hR.1, Nat.le_trans (Nat.le_of_ble_eq_true rfl) hR.2⟩ rfl (lv_size hl) rfl (Nat.le_of_ble_eq_true rfl) dL_law_908 hb (fun z w1 H locs hp h => ?_) (fun w1 H locs hp h => ?_)
  · obtain ⟨rfl, hp⟩ := hp
    have h : HW G A s.heap (LWd G a a' o u v (vp_updL f 0 (Int32.ofInt z).toInt64)) H locs := h
    refine z_istore (i := 5) (lv' := [(5, zI 0), (4, zI (kn : Int)), (0, .ref b), (1, .ref (a 0)), (2, .ref (a' 0)), (3, .ref o)]) X hl (by decide) dL_law_911 rfl (fun ls hl => ?_)
    refine z_aload_n X hl 4 rfl rfl dL_law_913 ?_
    refine z_aload_n X hl 2 rfl rfl dL_law_914 ?_
    refine z_iload X hl 1 rfl dL_law_915 ?_
    refine z_iconst X dL_law_917 ?_
    refine z_iadd X dL_law_918 ?_
    refine r_scr (j := kn + 1) X h hX hbl hbA (by omega) (by omega) hL dL_law_919 ?_
    refine r_lawM (rest := []) X K g h (ct_X10_wordAt v ((xs (kn + 1)).toInt) _ hp) lk_L_169 ⟨rfl, rfl⟩ ⟨Nat.le_trans (Nat.le_of_ble_eq_true rfl) hR.1, Nat.le_trans (Nat.le_of_ble_eq_true rfl) hR.2⟩ rfl (lv_size hl) rfl (Nat.le_of_ble_eq_true rfl) dL_law_920 hb (fun z' v' H locs hq h => ?_)
    refine z_istore (i := 6) (lv' := [(6, zI z'), (5, zI 0), (4, zI (kn : Int)), (0, .ref b), (1, .ref (a 0)), (2, .ref (a' 0)), (3, .ref o)]) X hl (by decide) dL_law_923 rfl (fun ls hl => ?_)
    refine z_aload_n X hl 5 rfl rfl dL_law_925 ?_
    refine r_lawMp (rest := []) X K g h (ct_X10_thrown v' _ hq) lk_L_73 ⟨rfl, rfl⟩ ⟨Nat.le_trans (Nat.le_of_ble_eq_true rfl) hR.1, Nat.le_trans (Nat.le_of_ble_eq_true rfl) hR.2⟩ rfl (lv_size hl) rfl (Nat.le_of_ble_eq_true rfl) dL_law_926 hb (fun t H locs ht h => ?_)
    obtain ⟨rfl, rfl, hN⟩ := ht
    refine z_iload X hl 1 rfl dL_law_929 ?_
    refine lv_icmp_eq (tgt := 936) X.1 X.2.1 dL_law_931 (by decide) (fun _ => ?_) (fun h0 => absurd rfl h0)
    refine z_iload X hl 1 rfl dL_law_936 ?_
    refine lv_if_ne (tgt := 953) X.1 X.2.1 dL_law_938 (by decide) (fun h0 => absurd rfl h0) (fun _ => ?_)
    refine z_aload_n X hl 6 rfl rfl dL_law_941 ?_
    refine z_iconst X dL_law_942 ?_
    refine r_lald X K h dL_law_943 ?_
    refine z_iload X hl 0 rfl dL_law_944 ?_
    refine lv_i2l X.1 X.2.1 dL_law_946 rfl ?_
    refine W.lcmp X.1 X.2.1 dL_law_947 ?_
    rw [show vp_updL f 0 (Int32.ofInt z').toInt64 0 = (Int32.ofInt z').toInt64 from rfl, lg_cmp_rf]
    refine lv_if_eq (tgt := 953) X.1 X.2.1 dL_law_948 (by decide) (fun _ => ?_) (fun h0 => absurd rfl h0)
    refine z_goto (tgt := 1398) X dL_law_953 (by decide) ?_
    exact kk _ _ _ H locs ls hN (lv_sub hl [2, 3, 4, 5, 6] rfl) h
  · obtain ⟨rfl, hp⟩ := hp
    have h : HW G A s.heap (LWd G a a' o u v f) H locs := h
    refine z_istore (i := 5) (lv' := [(5, zI 1), (4, zI (kn : Int)), (0, .ref b), (1, .ref (a 0)), (2, .ref (a' 0)), (3, .ref o)]) X hl (by decide) dL_law_911 rfl (fun ls hl => ?_)
    refine z_aload_n X hl 4 rfl rfl dL_law_913 ?_
    refine z_aload_n X hl 2 rfl rfl dL_law_914 ?_
    refine z_iload X hl 1 rfl dL_law_915 ?_
    refine z_iconst X dL_law_917 ?_
    refine z_iadd X dL_law_918 ?_
    refine r_scr (j := kn + 1) X h hX hbl hbA (by omega) (by omega) hL dL_law_919 ?_
    refine r_lawM (rest := []) X K g h (ct_X10_wordAt v ((xs (kn + 1)).toInt) _ hp) lk_L_169 ⟨rfl, rfl⟩ ⟨Nat.le_trans (Nat.le_of_ble_eq_true rfl) hR.1, Nat.le_trans (Nat.le_of_ble_eq_true rfl) hR.2⟩ rfl (lv_size hl) rfl (Nat.le_of_ble_eq_true rfl) dL_law_920 hb (fun z' v' H locs hq h => ?_)
    refine z_istore (i := 6) (lv' := [(6, zI z'), (5, zI 1), (4, zI (kn : Int)), (0, .ref b), (1, .ref (a 0)), (2, .ref (a' 0)), (3, .ref o)]) X hl (by decide) dL_law_923 rfl (fun ls hl => ?_)
    refine z_aload_n X hl 5 rfl rfl dL_law_925 ?_
    refine r_lawMp (rest := []) X K g h (ct_X10_thrown v' _ hq) lk_L_73 ⟨rfl, rfl⟩ ⟨Nat.le_trans (Nat.le_of_ble_eq_true rfl) hR.1, Nat.le_trans (Nat.le_of_ble_eq_true rfl) hR.2⟩ rfl (lv_size hl) rfl (Nat.le_of_ble_eq_true rfl) dL_law_926 hb (fun t H locs ht h => ?_)
    obtain ⟨rfl, hN⟩ := ht
    refine z_iload X hl 1 rfl dL_law_929 ?_
    refine lv_icmp_eq (tgt := 936) X.1 X.2.1 dL_law_931 (by decide) (fun _ => ?_) (fun h0 => absurd rfl h0)
    refine z_iload X hl 1 rfl dL_law_936 ?_
    refine lv_if_ne (tgt := 953) X.1 X.2.1 dL_law_938 (by decide) (fun _ => ?_) (fun h0 => absurd h0 (by decide))
    refine z_goto (tgt := 1398) X dL_law_953 (by decide) ?_
    exact kk _ _ _ H locs ls hN (lv_sub hl [2, 3, 4, 5, 6] rfl) h
theorem law_27 {p : Program} {l : Launch} {e : Env} {R : Room} {s : State} {m : MethodId} {args : Array Value} {below : List Frame} {meth : Method} {c : Code} {H : Heap} {locs : List Loc} {cells slots : Nat} {Q : State → Prop} {ls : Array Slot} {G : Gr} {A : Nat → Prop} {a a' : Nat → Nat} {o b L kn : Nat} {u v : St} {f : Nat → Int64} {xs : Nat → Int32} {mc ms : Nat} (hst : l.stackTraces = false) (hR : 40 ≤ R.frames ∧ 1300 ≤ R.locals) (X : CallFix p m c cL_law 9 s args lw_all RL) (K : KK G s) (g : Gd G A s s.heap) (hX : va_X b L xs s s.heap) (hbl : b < s.heap.size) (hbA : ¬ A b) (hL : L ≤ 3072) (hkn : kn + 6 ≤ L) (h : HW G A s.heap (LWd G a a' o u v f) H locs) (hl : lv_has ls 9 [(4, zI (kn : Int)), (0, .ref b), (1, .ref (a 0)), (2, .ref (a' 0)), (3, .ref o)]) (hb : cells + mc ≤ R.cells ∧ slots + ms ≤ R.slots) (N : St → St → Prop) (hw : w_X9_indexOf (fun z => w_X10_indexOf (fun z' v' => w_X10_thrown (fun t => t = 0 ∧ z' = z ∧ N u v') v') v (xs (kn + 1)).toInt) (w_X10_indexOf (fun z' v' => w_X10_thrown (fun t => t = 1 ∧ N u v') v') v (xs (kn + 1)).toInt) mc ms u (xs (kn + 1)).toInt)
    (kk : ∀ (u' v' : St) (f' : Nat → Int64) (H1 : Heap) (locs1 : List Loc) (ls1 : Array Slot), N u' v' → lv_has ls1 9 [(4, zI (kn : Int)), (0, .ref b), (1, .ref (a 0)), (2, .ref (a' 0)), (3, .ref o)] → HW G A s.heap (LWd G a a' o u' v' f') H1 locs1 → W p l e R s m args below meth c H1 locs1 (cells + mc) (slots + ms) Q (F0 m 1398 ls1 [])) : W p l e R s m args below meth c H locs cells slots Q (F0 m 956 ls []) := by
  refine z_aload_n X hl 2 rfl rfl dL_law_956 ?_
  refine z_aload_n X hl 1 rfl rfl dL_law_957 ?_
  refine z_iload X hl 0 rfl dL_law_958 ?_
  refine z_iconst X dL_law_960 ?_
  refine z_iadd X dL_law_961 ?_
  refine r_scr (j := kn + 1) X h hX hbl hbA (by omega) (by omega) hL dL_law_962 ?_
  refine z_aload_n X hl 4 rfl rfl dL_law_963 ?_
  refine r_lawW (rest := []) X K g h (ct_L_indexOf hst mc ms u ((xs (kn + 1)).toInt) _ _ hw) lkW_indexOf ⟨rfl, rfl⟩ ⟨Nat.le_trans (Nat.le_of_ble_eq_true rfl) hR.1, Nat.le_trans (Nat.le_of_ble_eq_true rfl) hR.2⟩ rfl (lv_size hl) rfl (Nat.le_of_ble_eq_true rfl) dL_law_964 hb (fun z w1 H locs hp h => ?_) (fun w1 H locs hp h => ?_)
  · obtain ⟨rfl, hp⟩ := hp
    have h : HW G A s.heap (LWd G a a' o u v (vp_updL f 0 (Int32.ofInt z).toInt64)) H locs := h
    refine z_istore (i := 5) (lv' := [(5, zI 0), (4, zI (kn : Int)), (0, .ref b), (1, .ref (a 0)), (2, .ref (a' 0)), (3, .ref o)]) X hl (by decide) dL_law_967 rfl (fun ls hl => ?_)
    refine z_aload_n X hl 4 rfl rfl dL_law_969 ?_
    refine z_aload_n X hl 2 rfl rfl dL_law_970 ?_
    refine z_iload X hl 1 rfl dL_law_971 ?_
    refine z_iconst X dL_law_973 ?_
    refine z_iadd X dL_law_974 ?_
    refine r_scr (j := kn + 1) X h hX hbl hbA (by omega) (by omega) hL dL_law_975 ?_
    refine r_lawM (rest := []) X K g h (ct_X10_indexOf v ((xs (kn + 1)).toInt) _ hp) lk_L_172 ⟨rfl, rfl⟩ ⟨Nat.le_trans (Nat.le_of_ble_eq_true rfl) hR.1, Nat.le_trans (Nat.le_of_ble_eq_true rfl) hR.2⟩ rfl (lv_size hl) rfl (Nat.le_of_ble_eq_true rfl) dL_law_976 hb (fun z' v' H locs hq h => ?_)
    refine z_istore (i := 6) (lv' := [(6, zI z'), (5, zI 0), (4, zI (kn : Int)), (0, .ref b), (1, .ref (a 0)), (2, .ref (a' 0)), (3, .ref o)]) X hl (by decide) dL_law_979 rfl (fun ls hl => ?_)
    refine z_aload_n X hl 5 rfl rfl dL_law_981 ?_
    refine r_lawMp (rest := []) X K g h (ct_X10_thrown v' _ hq) lk_L_73 ⟨rfl, rfl⟩ ⟨Nat.le_trans (Nat.le_of_ble_eq_true rfl) hR.1, Nat.le_trans (Nat.le_of_ble_eq_true rfl) hR.2⟩ rfl (lv_size hl) rfl (Nat.le_of_ble_eq_true rfl) dL_law_982 hb (fun t H locs ht h => ?_)
    obtain ⟨rfl, rfl, hN⟩ := ht
    refine z_iload X hl 1 rfl dL_law_985 ?_
    refine lv_icmp_eq (tgt := 992) X.1 X.2.1 dL_law_987 (by decide) (fun _ => ?_) (fun h0 => absurd rfl h0)
    refine z_iload X hl 1 rfl dL_law_992 ?_
    refine lv_if_ne (tgt := 1009) X.1 X.2.1 dL_law_994 (by decide) (fun h0 => absurd rfl h0) (fun _ => ?_)
    refine z_aload_n X hl 6 rfl rfl dL_law_997 ?_
    refine z_iconst X dL_law_998 ?_
    refine r_lald X K h dL_law_999 ?_
    refine z_iload X hl 0 rfl dL_law_1000 ?_
    refine lv_i2l X.1 X.2.1 dL_law_1002 rfl ?_
    refine W.lcmp X.1 X.2.1 dL_law_1003 ?_
    rw [show vp_updL f 0 (Int32.ofInt z').toInt64 0 = (Int32.ofInt z').toInt64 from rfl, lg_cmp_rf]
    refine lv_if_eq (tgt := 1009) X.1 X.2.1 dL_law_1004 (by decide) (fun _ => ?_) (fun h0 => absurd rfl h0)
    refine z_goto (tgt := 1398) X dL_law_1009 (by decide) ?_
    exact kk _ _ _ H locs ls hN (lv_sub hl [2, 3, 4, 5, 6] rfl) h
  · obtain ⟨rfl, hp⟩ := hp
    have h : HW G A s.heap (LWd G a a' o u v f) H locs := h
    refine z_istore (i := 5) (lv' := [(5, zI 1), (4, zI (kn : Int)), (0, .ref b), (1, .ref (a 0)), (2, .ref (a' 0)), (3, .ref o)]) X hl (by decide) dL_law_967 rfl (fun ls hl => ?_)
    refine z_aload_n X hl 4 rfl rfl dL_law_969 ?_
    refine z_aload_n X hl 2 rfl rfl dL_law_970 ?_
    refine z_iload X hl 1 rfl dL_law_971 ?_
    refine z_iconst X dL_law_973 ?_
    refine z_iadd X dL_law_974 ?_
    refine r_scr (j := kn + 1) X h hX hbl hbA (by omega) (by omega) hL dL_law_975 ?_
    refine r_lawM (rest := []) X K g h (ct_X10_indexOf v ((xs (kn + 1)).toInt) _ hp) lk_L_172 ⟨rfl, rfl⟩ ⟨Nat.le_trans (Nat.le_of_ble_eq_true rfl) hR.1, Nat.le_trans (Nat.le_of_ble_eq_true rfl) hR.2⟩ rfl (lv_size hl) rfl (Nat.le_of_ble_eq_true rfl) dL_law_976 hb (fun z' v' H locs hq h => ?_)
    refine z_istore (i := 6) (lv' := [(6, zI z'), (5, zI 1), (4, zI (kn : Int)), (0, .ref b), (1, .ref (a 0)), (2, .ref (a' 0)), (3, .ref o)]) X hl (by decide) dL_law_979 rfl (fun ls hl => ?_)
    refine z_aload_n X hl 5 rfl rfl dL_law_981 ?_
    refine r_lawMp (rest := []) X K g h (ct_X10_thrown v' _ hq) lk_L_73 ⟨rfl, rfl⟩ ⟨Nat.le_trans (Nat.le_of_ble_eq_true rfl) hR.1, Nat.le_trans (Nat.le_of_ble_eq_true rfl) hR.2⟩ rfl (lv_size hl) rfl (Nat.le_of_ble_eq_true rfl) dL_law_982 hb (fun t H locs ht h => ?_)
    obtain ⟨rfl, hN⟩ := ht
    refine z_iload X hl 1 rfl dL_law_985 ?_
    refine lv_icmp_eq (tgt := 992) X.1 X.2.1 dL_law_987 (by decide) (fun _ => ?_) (fun h0 => absurd rfl h0)
    refine z_iload X hl 1 rfl dL_law_992 ?_
    refine lv_if_ne (tgt := 1009) X.1 X.2.1 dL_law_994 (by decide) (fun _ => ?_) (fun h0 => absurd h0 (by decide))
    refine z_goto (tgt := 1398) X dL_law_1009 (by decide) ?_
    exact kk _ _ _ H locs ls hN (lv_sub hl [2, 3, 4, 5, 6] rfl) h
theorem law_28 {p : Program} {l : Launch} {e : Env} {R : Room} {s : State} {m : MethodId} {args : Array Value} {below : List Frame} {meth : Method} {c : Code} {H : Heap} {locs : List Loc} {cells slots : Nat} {Q : State → Prop} {ls : Array Slot} {G : Gr} {A : Nat → Prop} {a a' : Nat → Nat} {o b L kn : Nat} {u v : St} {f : Nat → Int64} {xs : Nat → Int32} {mc ms : Nat} (hst : l.stackTraces = false) (hR : 40 ≤ R.frames ∧ 1300 ≤ R.locals) (X : CallFix p m c cL_law 9 s args lw_all RL) (K : KK G s) (g : Gd G A s s.heap) (hX : va_X b L xs s s.heap) (hbl : b < s.heap.size) (hbA : ¬ A b) (hL : L ≤ 3072) (hkn : kn + 6 ≤ L) (h : HW G A s.heap (LWd G a a' o u v f) H locs) (hl : lv_has ls 9 [(4, zI (kn : Int)), (0, .ref b), (1, .ref (a 0)), (2, .ref (a' 0)), (3, .ref o)]) (hb : cells + mc ≤ R.cells ∧ slots + ms ≤ R.slots) (N : St → St → Prop) (hw : w_X9_lastIndexOf (fun z => w_X10_lastIndexOf (fun z' v' => w_X10_thrown (fun t => t = 0 ∧ z' = z ∧ N u v') v') v (xs (kn + 1)).toInt) (w_X10_lastIndexOf (fun z' v' => w_X10_thrown (fun t => t = 1 ∧ N u v') v') v (xs (kn + 1)).toInt) mc ms u (xs (kn + 1)).toInt)
    (kk : ∀ (u' v' : St) (f' : Nat → Int64) (H1 : Heap) (locs1 : List Loc) (ls1 : Array Slot), N u' v' → lv_has ls1 9 [(4, zI (kn : Int)), (0, .ref b), (1, .ref (a 0)), (2, .ref (a' 0)), (3, .ref o)] → HW G A s.heap (LWd G a a' o u' v' f') H1 locs1 → W p l e R s m args below meth c H1 locs1 (cells + mc) (slots + ms) Q (F0 m 1398 ls1 [])) : W p l e R s m args below meth c H locs cells slots Q (F0 m 1012 ls []) := by
  refine z_aload_n X hl 2 rfl rfl dL_law_1012 ?_
  refine z_aload_n X hl 1 rfl rfl dL_law_1013 ?_
  refine z_iload X hl 0 rfl dL_law_1014 ?_
  refine z_iconst X dL_law_1016 ?_
  refine z_iadd X dL_law_1017 ?_
  refine r_scr (j := kn + 1) X h hX hbl hbA (by omega) (by omega) hL dL_law_1018 ?_
  refine z_aload_n X hl 4 rfl rfl dL_law_1019 ?_
  refine r_lawW (rest := []) X K g h (ct_L_lastIndexOf hst mc ms u ((xs (kn + 1)).toInt) _ _ hw) lkW_lastIndexOf ⟨rfl, rfl⟩ ⟨Nat.le_trans (Nat.le_of_ble_eq_true rfl) hR.1, Nat.le_trans (Nat.le_of_ble_eq_true rfl) hR.2⟩ rfl (lv_size hl) rfl (Nat.le_of_ble_eq_true rfl) dL_law_1020 hb (fun z w1 H locs hp h => ?_) (fun w1 H locs hp h => ?_)
  · obtain ⟨rfl, hp⟩ := hp
    have h : HW G A s.heap (LWd G a a' o u v (vp_updL f 0 (Int32.ofInt z).toInt64)) H locs := h
    refine z_istore (i := 5) (lv' := [(5, zI 0), (4, zI (kn : Int)), (0, .ref b), (1, .ref (a 0)), (2, .ref (a' 0)), (3, .ref o)]) X hl (by decide) dL_law_1023 rfl (fun ls hl => ?_)
    refine z_aload_n X hl 4 rfl rfl dL_law_1025 ?_
    refine z_aload_n X hl 2 rfl rfl dL_law_1026 ?_
    refine z_iload X hl 1 rfl dL_law_1027 ?_
    refine z_iconst X dL_law_1029 ?_
    refine z_iadd X dL_law_1030 ?_
    refine r_scr (j := kn + 1) X h hX hbl hbA (by omega) (by omega) hL dL_law_1031 ?_
    refine r_lawM (rest := []) X K g h (ct_X10_lastIndexOf v ((xs (kn + 1)).toInt) _ hp) lk_L_175 ⟨rfl, rfl⟩ ⟨Nat.le_trans (Nat.le_of_ble_eq_true rfl) hR.1, Nat.le_trans (Nat.le_of_ble_eq_true rfl) hR.2⟩ rfl (lv_size hl) rfl (Nat.le_of_ble_eq_true rfl) dL_law_1032 hb (fun z' v' H locs hq h => ?_)
    refine z_istore (i := 6) (lv' := [(6, zI z'), (5, zI 0), (4, zI (kn : Int)), (0, .ref b), (1, .ref (a 0)), (2, .ref (a' 0)), (3, .ref o)]) X hl (by decide) dL_law_1035 rfl (fun ls hl => ?_)
    refine z_aload_n X hl 5 rfl rfl dL_law_1037 ?_
    refine r_lawMp (rest := []) X K g h (ct_X10_thrown v' _ hq) lk_L_73 ⟨rfl, rfl⟩ ⟨Nat.le_trans (Nat.le_of_ble_eq_true rfl) hR.1, Nat.le_trans (Nat.le_of_ble_eq_true rfl) hR.2⟩ rfl (lv_size hl) rfl (Nat.le_of_ble_eq_true rfl) dL_law_1038 hb (fun t H locs ht h => ?_)
    obtain ⟨rfl, rfl, hN⟩ := ht
    refine z_iload X hl 1 rfl dL_law_1041 ?_
    refine lv_icmp_eq (tgt := 1048) X.1 X.2.1 dL_law_1043 (by decide) (fun _ => ?_) (fun h0 => absurd rfl h0)
    refine z_iload X hl 1 rfl dL_law_1048 ?_
    refine lv_if_ne (tgt := 1065) X.1 X.2.1 dL_law_1050 (by decide) (fun h0 => absurd rfl h0) (fun _ => ?_)
    refine z_aload_n X hl 6 rfl rfl dL_law_1053 ?_
    refine z_iconst X dL_law_1054 ?_
    refine r_lald X K h dL_law_1055 ?_
    refine z_iload X hl 0 rfl dL_law_1056 ?_
    refine lv_i2l X.1 X.2.1 dL_law_1058 rfl ?_
    refine W.lcmp X.1 X.2.1 dL_law_1059 ?_
    rw [show vp_updL f 0 (Int32.ofInt z').toInt64 0 = (Int32.ofInt z').toInt64 from rfl, lg_cmp_rf]
    refine lv_if_eq (tgt := 1065) X.1 X.2.1 dL_law_1060 (by decide) (fun _ => ?_) (fun h0 => absurd rfl h0)
    refine z_goto (tgt := 1398) X dL_law_1065 (by decide) ?_
    exact kk _ _ _ H locs ls hN (lv_sub hl [2, 3, 4, 5, 6] rfl) h
  · obtain ⟨rfl, hp⟩ := hp
    have h : HW G A s.heap (LWd G a a' o u v f) H locs := h
    refine z_istore (i := 5) (lv' := [(5, zI 1), (4, zI (kn : Int)), (0, .ref b), (1, .ref (a 0)), (2, .ref (a' 0)), (3, .ref o)]) X hl (by decide) dL_law_1023 rfl (fun ls hl => ?_)
    refine z_aload_n X hl 4 rfl rfl dL_law_1025 ?_
    refine z_aload_n X hl 2 rfl rfl dL_law_1026 ?_
    refine z_iload X hl 1 rfl dL_law_1027 ?_
    refine z_iconst X dL_law_1029 ?_
    refine z_iadd X dL_law_1030 ?_
    refine r_scr (j := kn + 1) X h hX hbl hbA (by omega) (by omega) hL dL_law_1031 ?_
    refine r_lawM (rest := []) X K g h (ct_X10_lastIndexOf v ((xs (kn + 1)).toInt) _ hp) lk_L_175 ⟨rfl, rfl⟩ ⟨Nat.le_trans (Nat.le_of_ble_eq_true rfl) hR.1, Nat.le_trans (Nat.le_of_ble_eq_true rfl) hR.2⟩ rfl (lv_size hl) rfl (Nat.le_of_ble_eq_true rfl) dL_law_1032 hb (fun z' v' H locs hq h => ?_)
    refine z_istore (i := 6) (lv' := [(6, zI z'), (5, zI 1), (4, zI (kn : Int)), (0, .ref b), (1, .ref (a 0)), (2, .ref (a' 0)), (3, .ref o)]) X hl (by decide) dL_law_1035 rfl (fun ls hl => ?_)
    refine z_aload_n X hl 5 rfl rfl dL_law_1037 ?_
    refine r_lawMp (rest := []) X K g h (ct_X10_thrown v' _ hq) lk_L_73 ⟨rfl, rfl⟩ ⟨Nat.le_trans (Nat.le_of_ble_eq_true rfl) hR.1, Nat.le_trans (Nat.le_of_ble_eq_true rfl) hR.2⟩ rfl (lv_size hl) rfl (Nat.le_of_ble_eq_true rfl) dL_law_1038 hb (fun t H locs ht h => ?_)
    obtain ⟨rfl, hN⟩ := ht
    refine z_iload X hl 1 rfl dL_law_1041 ?_
    refine lv_icmp_eq (tgt := 1048) X.1 X.2.1 dL_law_1043 (by decide) (fun _ => ?_) (fun h0 => absurd rfl h0)
    refine z_iload X hl 1 rfl dL_law_1048 ?_
    refine lv_if_ne (tgt := 1065) X.1 X.2.1 dL_law_1050 (by decide) (fun _ => ?_) (fun h0 => absurd h0 (by decide))
    refine z_goto (tgt := 1398) X dL_law_1065 (by decide) ?_
    exact kk _ _ _ H locs ls hN (lv_sub hl [2, 3, 4, 5, 6] rfl) h
theorem law_29 {p : Program} {l : Launch} {e : Env} {R : Room} {s : State} {m : MethodId} {args : Array Value} {below : List Frame} {meth : Method} {c : Code} {H : Heap} {locs : List Loc} {cells slots : Nat} {Q : State → Prop} {ls : Array Slot} {G : Gr} {A : Nat → Prop} {a a' : Nat → Nat} {o b L kn : Nat} {u v : St} {f : Nat → Int64} {xs : Nat → Int32} {mc ms : Nat} (hst : l.stackTraces = false) (hR : 40 ≤ R.frames ∧ 1300 ≤ R.locals) (X : CallFix p m c cL_law 9 s args lw_all RL) (K : KK G s) (g : Gd G A s s.heap) (hX : va_X b L xs s s.heap) (hbl : b < s.heap.size) (hbA : ¬ A b) (hL : L ≤ 3072) (hkn : kn + 6 ≤ L) (h : HW G A s.heap (LWd G a a' o u v f) H locs) (hl : lv_has ls 9 [(4, zI (kn : Int)), (0, .ref b), (1, .ref (a 0)), (2, .ref (a' 0)), (3, .ref o)]) (hb : cells + mc ≤ R.cells ∧ slots + ms ≤ R.slots) (N : St → St → Prop) (hw : w_X9_count (fun z => w_X10_count (fun z' v' => w_X10_thrown (fun t => t = 0 ∧ z' = z ∧ N u v') v') v (xs (kn + 1)).toInt) (w_X10_count (fun z' v' => w_X10_thrown (fun t => t = 1 ∧ N u v') v') v (xs (kn + 1)).toInt) mc ms u (xs (kn + 1)).toInt)
    (kk : ∀ (u' v' : St) (f' : Nat → Int64) (H1 : Heap) (locs1 : List Loc) (ls1 : Array Slot), N u' v' → lv_has ls1 9 [(4, zI (kn : Int)), (0, .ref b), (1, .ref (a 0)), (2, .ref (a' 0)), (3, .ref o)] → HW G A s.heap (LWd G a a' o u' v' f') H1 locs1 → W p l e R s m args below meth c H1 locs1 (cells + mc) (slots + ms) Q (F0 m 1398 ls1 [])) : W p l e R s m args below meth c H locs cells slots Q (F0 m 1068 ls []) := by
  refine z_aload_n X hl 2 rfl rfl dL_law_1068 ?_
  refine z_aload_n X hl 1 rfl rfl dL_law_1069 ?_
  refine z_iload X hl 0 rfl dL_law_1070 ?_
  refine z_iconst X dL_law_1072 ?_
  refine z_iadd X dL_law_1073 ?_
  refine r_scr (j := kn + 1) X h hX hbl hbA (by omega) (by omega) hL dL_law_1074 ?_
  refine z_aload_n X hl 4 rfl rfl dL_law_1075 ?_
  refine r_lawW (rest := []) X K g h (ct_L_count hst mc ms u ((xs (kn + 1)).toInt) _ _ hw) lkW_count ⟨rfl, rfl⟩ ⟨Nat.le_trans (Nat.le_of_ble_eq_true rfl) hR.1, Nat.le_trans (Nat.le_of_ble_eq_true rfl) hR.2⟩ rfl (lv_size hl) rfl (Nat.le_of_ble_eq_true rfl) dL_law_1076 hb (fun z w1 H locs hp h => ?_) (fun w1 H locs hp h => ?_)
  · obtain ⟨rfl, hp⟩ := hp
    have h : HW G A s.heap (LWd G a a' o u v (vp_updL f 0 (Int32.ofInt z).toInt64)) H locs := h
    refine z_istore (i := 5) (lv' := [(5, zI 0), (4, zI (kn : Int)), (0, .ref b), (1, .ref (a 0)), (2, .ref (a' 0)), (3, .ref o)]) X hl (by decide) dL_law_1079 rfl (fun ls hl => ?_)
    refine z_aload_n X hl 4 rfl rfl dL_law_1081 ?_
    refine z_aload_n X hl 2 rfl rfl dL_law_1082 ?_
    refine z_iload X hl 1 rfl dL_law_1083 ?_
    refine z_iconst X dL_law_1085 ?_
    refine z_iadd X dL_law_1086 ?_
    refine r_scr (j := kn + 1) X h hX hbl hbA (by omega) (by omega) hL dL_law_1087 ?_
    refine r_lawM (rest := []) X K g h (ct_X10_count v ((xs (kn + 1)).toInt) _ hp) lk_L_178 ⟨rfl, rfl⟩ ⟨Nat.le_trans (Nat.le_of_ble_eq_true rfl) hR.1, Nat.le_trans (Nat.le_of_ble_eq_true rfl) hR.2⟩ rfl (lv_size hl) rfl (Nat.le_of_ble_eq_true rfl) dL_law_1088 hb (fun z' v' H locs hq h => ?_)
    refine z_istore (i := 6) (lv' := [(6, zI z'), (5, zI 0), (4, zI (kn : Int)), (0, .ref b), (1, .ref (a 0)), (2, .ref (a' 0)), (3, .ref o)]) X hl (by decide) dL_law_1091 rfl (fun ls hl => ?_)
    refine z_aload_n X hl 5 rfl rfl dL_law_1093 ?_
    refine r_lawMp (rest := []) X K g h (ct_X10_thrown v' _ hq) lk_L_73 ⟨rfl, rfl⟩ ⟨Nat.le_trans (Nat.le_of_ble_eq_true rfl) hR.1, Nat.le_trans (Nat.le_of_ble_eq_true rfl) hR.2⟩ rfl (lv_size hl) rfl (Nat.le_of_ble_eq_true rfl) dL_law_1094 hb (fun t H locs ht h => ?_)
    obtain ⟨rfl, rfl, hN⟩ := ht
    refine z_iload X hl 1 rfl dL_law_1097 ?_
    refine lv_icmp_eq (tgt := 1104) X.1 X.2.1 dL_law_1099 (by decide) (fun _ => ?_) (fun h0 => absurd rfl h0)
    refine z_iload X hl 1 rfl dL_law_1104 ?_
    refine lv_if_ne (tgt := 1121) X.1 X.2.1 dL_law_1106 (by decide) (fun h0 => absurd rfl h0) (fun _ => ?_)
    refine z_aload_n X hl 6 rfl rfl dL_law_1109 ?_
    refine z_iconst X dL_law_1110 ?_
    refine r_lald X K h dL_law_1111 ?_
    refine z_iload X hl 0 rfl dL_law_1112 ?_
    refine lv_i2l X.1 X.2.1 dL_law_1114 rfl ?_
    refine W.lcmp X.1 X.2.1 dL_law_1115 ?_
    rw [show vp_updL f 0 (Int32.ofInt z').toInt64 0 = (Int32.ofInt z').toInt64 from rfl, lg_cmp_rf]
    refine lv_if_eq (tgt := 1121) X.1 X.2.1 dL_law_1116 (by decide) (fun _ => ?_) (fun h0 => absurd rfl h0)
    refine z_goto (tgt := 1398) X dL_law_1121 (by decide) ?_
    exact kk _ _ _ H locs ls hN (lv_sub hl [2, 3, 4, 5, 6] rfl) h
  · obtain ⟨rfl, hp⟩ := hp
    have h : HW G A s.heap (LWd G a a' o u v f) H locs := h
    refine z_istore (i := 5) (lv' := [(5, zI 1), (4, zI (kn : Int)), (0, .ref b), (1, .ref (a 0)), (2, .ref (a' 0)), (3, .ref o)]) X hl (by decide) dL_law_1079 rfl (fun ls hl => ?_)
    refine z_aload_n X hl 4 rfl rfl dL_law_1081 ?_
    refine z_aload_n X hl 2 rfl rfl dL_law_1082 ?_
    refine z_iload X hl 1 rfl dL_law_1083 ?_
    refine z_iconst X dL_law_1085 ?_
    refine z_iadd X dL_law_1086 ?_
    refine r_scr (j := kn + 1) X h hX hbl hbA (by omega) (by omega) hL dL_law_1087 ?_
    refine r_lawM (rest := []) X K g h (ct_X10_count v ((xs (kn + 1)).toInt) _ hp) lk_L_178 ⟨rfl, rfl⟩ ⟨Nat.le_trans (Nat.le_of_ble_eq_true rfl) hR.1, Nat.le_trans (Nat.le_of_ble_eq_true rfl) hR.2⟩ rfl (lv_size hl) rfl (Nat.le_of_ble_eq_true rfl) dL_law_1088 hb (fun z' v' H locs hq h => ?_)
    refine z_istore (i := 6) (lv' := [(6, zI z'), (5, zI 1), (4, zI (kn : Int)), (0, .ref b), (1, .ref (a 0)), (2, .ref (a' 0)), (3, .ref o)]) X hl (by decide) dL_law_1091 rfl (fun ls hl => ?_)
    refine z_aload_n X hl 5 rfl rfl dL_law_1093 ?_
    refine r_lawMp (rest := []) X K g h (ct_X10_thrown v' _ hq) lk_L_73 ⟨rfl, rfl⟩ ⟨Nat.le_trans (Nat.le_of_ble_eq_true rfl) hR.1, Nat.le_trans (Nat.le_of_ble_eq_true rfl) hR.2⟩ rfl (lv_size hl) rfl (Nat.le_of_ble_eq_true rfl) dL_law_1094 hb (fun t H locs ht h => ?_)
    obtain ⟨rfl, hN⟩ := ht
    refine z_iload X hl 1 rfl dL_law_1097 ?_
    refine lv_icmp_eq (tgt := 1104) X.1 X.2.1 dL_law_1099 (by decide) (fun _ => ?_) (fun h0 => absurd rfl h0)
    refine z_iload X hl 1 rfl dL_law_1104 ?_
    refine lv_if_ne (tgt := 1121) X.1 X.2.1 dL_law_1106 (by decide) (fun _ => ?_) (fun h0 => absurd h0 (by decide))
    refine z_goto (tgt := 1398) X dL_law_1121 (by decide) ?_
    exact kk _ _ _ H locs ls hN (lv_sub hl [2, 3, 4, 5, 6] rfl) h
theorem law_30 {p : Program} {l : Launch} {e : Env} {R : Room} {s : State} {m : MethodId} {args : Array Value} {below : List Frame} {meth : Method} {c : Code} {H : Heap} {locs : List Loc} {cells slots : Nat} {Q : State → Prop} {ls : Array Slot} {G : Gr} {A : Nat → Prop} {a a' : Nat → Nat} {o b L kn : Nat} {u v : St} {f : Nat → Int64} {xs : Nat → Int32} (hst : l.stackTraces = false) (hR : 40 ≤ R.frames ∧ 1300 ≤ R.locals) (X : CallFix p m c cL_law 9 s args lw_all RL) (K : KK G s) (g : Gd G A s s.heap) (hX : va_X b L xs s s.heap) (hbl : b < s.heap.size) (hbA : ¬ A b) (hL : L ≤ 3072) (hkn : kn + 6 ≤ L) (h : HW G A s.heap (LWd G a a' o u v f) H locs) (hl : lv_has ls 9 [(4, zI (kn : Int)), (0, .ref b), (1, .ref (a 0)), (2, .ref (a' 0)), (3, .ref o)]) (hb : cells ≤ R.cells ∧ slots ≤ R.slots) (N : St → St → Prop) (hw : w_X9_unlike (fun z => w_X10_unlike (fun z' v' => z' = z ∧ N u v') v) u)
    (kk : ∀ (u' v' : St) (f' : Nat → Int64) (H1 : Heap) (locs1 : List Loc) (ls1 : Array Slot), N u' v' → lv_has ls1 9 [(4, zI (kn : Int)), (0, .ref b), (1, .ref (a 0)), (2, .ref (a' 0)), (3, .ref o)] → HW G A s.heap (LWd G a a' o u' v' f') H1 locs1 → W p l e R s m args below meth c H1 locs1 (cells) (slots) Q (F0 m 1398 ls1 [])) : W p l e R s m args below meth c H locs cells slots Q (F0 m 1124 ls []) := by
  refine z_aload_n X hl 2 rfl rfl dL_law_1124 ?_
  refine r_lawCp (rest := []) X K g h (ct_X9_unlike u  _ hw) lk_L_179 ⟨rfl, rfl⟩ ⟨Nat.le_trans (Nat.le_of_ble_eq_true rfl) hR.1, Nat.le_trans (Nat.le_of_ble_eq_true rfl) hR.2⟩ rfl (lv_size hl) rfl (Nat.le_of_ble_eq_true rfl) dL_law_1125 hb (fun z H locs hp h => ?_)
  refine z_aload_n X hl 3 rfl rfl dL_law_1128 ?_
  refine r_lawM (rest := [zI z]) X K g h (ct_X10_unlike v  _ hp) lk_L_182 ⟨rfl, rfl⟩ ⟨Nat.le_trans (Nat.le_of_ble_eq_true rfl) hR.1, Nat.le_trans (Nat.le_of_ble_eq_true rfl) hR.2⟩ rfl (lv_size hl) rfl (Nat.le_of_ble_eq_true rfl) dL_law_1129 hb (fun z' v' H locs hq h => ?_)
  obtain ⟨rfl, hN⟩ := hq
  refine lv_icmp_eq (tgt := 1398) X.1 X.2.1 dL_law_1132 (by decide) (fun _ => ?_) (fun h0 => absurd rfl h0)
  exact kk _ _ _ H locs ls hN hl h
theorem law_31 {p : Program} {l : Launch} {e : Env} {R : Room} {s : State} {m : MethodId} {args : Array Value} {below : List Frame} {meth : Method} {c : Code} {H : Heap} {locs : List Loc} {cells slots : Nat} {Q : State → Prop} {ls : Array Slot} {G : Gr} {A : Nat → Prop} {a a' : Nat → Nat} {o b L kn : Nat} {u v : St} {f : Nat → Int64} {xs : Nat → Int32} (hst : l.stackTraces = false) (hR : 40 ≤ R.frames ∧ 1300 ≤ R.locals) (X : CallFix p m c cL_law 9 s args lw_all RL) (K : KK G s) (g : Gd G A s s.heap) (hX : va_X b L xs s s.heap) (hbl : b < s.heap.size) (hbA : ¬ A b) (hL : L ≤ 3072) (hkn : kn + 6 ≤ L) (h : HW G A s.heap (LWd G a a' o u v f) H locs) (hl : lv_has ls 9 [(4, zI (kn : Int)), (0, .ref b), (1, .ref (a 0)), (2, .ref (a' 0)), (3, .ref o)]) (hb : cells ≤ R.cells ∧ slots ≤ R.slots) (N : St → St → Prop) (hw : w_X9_clear (fun z u' => w_X10_clear (fun z' v' => z' = z ∧ N u' v') v) G u)
    (kk : ∀ (u' v' : St) (f' : Nat → Int64) (H1 : Heap) (locs1 : List Loc) (ls1 : Array Slot), N u' v' → lv_has ls1 9 [(4, zI (kn : Int)), (0, .ref b), (1, .ref (a 0)), (2, .ref (a' 0)), (3, .ref o)] → HW G A s.heap (LWd G a a' o u' v' f') H1 locs1 → W p l e R s m args below meth c H1 locs1 (cells) (slots) Q (F0 m 1398 ls1 [])) : W p l e R s m args below meth c H locs cells slots Q (F0 m 1137 ls []) := by
  refine z_aload_n X hl 2 rfl rfl dL_law_1137 ?_
  refine r_lawC (rest := []) X K g h (ct_X9_clear u  _ hw) lk_L_183 ⟨rfl, rfl⟩ ⟨Nat.le_trans (Nat.le_of_ble_eq_true rfl) hR.1, Nat.le_trans (Nat.le_of_ble_eq_true rfl) hR.2⟩ rfl (lv_size hl) rfl (Nat.le_of_ble_eq_true rfl) dL_law_1138 hb (fun z u' H locs hp h => ?_)
  refine z_aload_n X hl 3 rfl rfl dL_law_1141 ?_
  refine r_lawM (rest := [zI z]) X K g h (ct_X10_clear v  _ hp) lk_L_186 ⟨rfl, rfl⟩ ⟨Nat.le_trans (Nat.le_of_ble_eq_true rfl) hR.1, Nat.le_trans (Nat.le_of_ble_eq_true rfl) hR.2⟩ rfl (lv_size hl) rfl (Nat.le_of_ble_eq_true rfl) dL_law_1142 hb (fun z' v' H locs hq h => ?_)
  obtain ⟨rfl, hN⟩ := hq
  refine lv_icmp_eq (tgt := 1398) X.1 X.2.1 dL_law_1145 (by decide) (fun _ => ?_) (fun h0 => absurd rfl h0)
  exact kk _ _ _ H locs ls hN hl h
theorem law_32 {p : Program} {l : Launch} {e : Env} {R : Room} {s : State} {m : MethodId} {args : Array Value} {below : List Frame} {meth : Method} {c : Code} {H : Heap} {locs : List Loc} {cells slots : Nat} {Q : State → Prop} {ls : Array Slot} {G : Gr} {A : Nat → Prop} {a a' : Nat → Nat} {o b L kn : Nat} {u v : St} {f : Nat → Int64} {xs : Nat → Int32} (hst : l.stackTraces = false) (hR : 40 ≤ R.frames ∧ 1300 ≤ R.locals) (X : CallFix p m c cL_law 9 s args lw_all RL) (K : KK G s) (g : Gd G A s s.heap) (hX : va_X b L xs s s.heap) (hbl : b < s.heap.size) (hbA : ¬ A b) (hL : L ≤ 3072) (hkn : kn + 6 ≤ L) (h : HW G A s.heap (LWd G a a' o u v f) H locs) (hl : lv_has ls 9 [(4, zI (kn : Int)), (0, .ref b), (1, .ref (a 0)), (2, .ref (a' 0)), (3, .ref o)]) (hb : cells ≤ R.cells ∧ slots ≤ R.slots) (N : St → St → Prop) (hw : w_X9_write (fun z u' => w_X10_write (fun z' v' => z' = z ∧ N u' v') v) u)
    (kk : ∀ (u' v' : St) (f' : Nat → Int64) (H1 : Heap) (locs1 : List Loc) (ls1 : Array Slot), N u' v' → lv_has ls1 9 [(4, zI (kn : Int)), (0, .ref b), (1, .ref (a 0)), (2, .ref (a' 0)), (3, .ref o)] → HW G A s.heap (LWd G a a' o u' v' f') H1 locs1 → W p l e R s m args below meth c H1 locs1 (cells) (slots) Q (F0 m 1398 ls1 [])) : W p l e R s m args below meth c H locs cells slots Q (F0 m 1150 ls []) := by
  refine z_aload_n X hl 2 rfl rfl dL_law_1150 ?_
  refine r_lawC (rest := []) X K g h (ct_X9_write u  _ hw) lk_L_187 ⟨rfl, rfl⟩ ⟨Nat.le_trans (Nat.le_of_ble_eq_true rfl) hR.1, Nat.le_trans (Nat.le_of_ble_eq_true rfl) hR.2⟩ rfl (lv_size hl) rfl (Nat.le_of_ble_eq_true rfl) dL_law_1151 hb (fun z u' H locs hp h => ?_)
  refine z_aload_n X hl 3 rfl rfl dL_law_1154 ?_
  refine r_lawM (rest := [zI z]) X K g h (ct_X10_write v  _ hp) lk_L_190 ⟨rfl, rfl⟩ ⟨Nat.le_trans (Nat.le_of_ble_eq_true rfl) hR.1, Nat.le_trans (Nat.le_of_ble_eq_true rfl) hR.2⟩ rfl (lv_size hl) rfl (Nat.le_of_ble_eq_true rfl) dL_law_1155 hb (fun z' v' H locs hq h => ?_)
  obtain ⟨rfl, hN⟩ := hq
  refine lv_icmp_eq (tgt := 1398) X.1 X.2.1 dL_law_1158 (by decide) (fun _ => ?_) (fun h0 => absurd rfl h0)
  exact kk _ _ _ H locs ls hN hl h
theorem law_33 {p : Program} {l : Launch} {e : Env} {R : Room} {s : State} {m : MethodId} {args : Array Value} {below : List Frame} {meth : Method} {c : Code} {H : Heap} {locs : List Loc} {cells slots : Nat} {Q : State → Prop} {ls : Array Slot} {G : Gr} {A : Nat → Prop} {a a' : Nat → Nat} {o b L kn : Nat} {u v : St} {f : Nat → Int64} {xs : Nat → Int32} {mc ms : Nat} (hst : l.stackTraces = false) (hR : 40 ≤ R.frames ∧ 1300 ≤ R.locals) (X : CallFix p m c cL_law 9 s args lw_all RL) (K : KK G s) (g : Gd G A s s.heap) (hX : va_X b L xs s s.heap) (hbl : b < s.heap.size) (hbA : ¬ A b) (hL : L ≤ 3072) (hkn : kn + 6 ≤ L) (h : HW G A s.heap (LWd G a a' o u v f) H locs) (hl : lv_has ls 9 [(4, zI (kn : Int)), (0, .ref b), (1, .ref (a 0)), (2, .ref (a' 0)), (3, .ref o)]) (hb : cells + mc ≤ R.cells ∧ slots + ms ≤ R.slots) (N : St → St → Prop) (hw : w_X9_writtenAt (fun z => w_X10_writtenAt (fun z' v' => w_X10_thrown (fun t => t = 0 ∧ z' = z ∧ N u v') v') v (xs (kn + 1)).toInt) (w_X10_writtenAt (fun z' v' => w_X10_thrown (fun t => t = 1 ∧ N u v') v') v (xs (kn + 1)).toInt) mc ms u (xs (kn + 1)).toInt)
    (kk : ∀ (u' v' : St) (f' : Nat → Int64) (H1 : Heap) (locs1 : List Loc) (ls1 : Array Slot), N u' v' → lv_has ls1 9 [(4, zI (kn : Int)), (0, .ref b), (1, .ref (a 0)), (2, .ref (a' 0)), (3, .ref o)] → HW G A s.heap (LWd G a a' o u' v' f') H1 locs1 → W p l e R s m args below meth c H1 locs1 (cells + mc) (slots + ms) Q (F0 m 1398 ls1 [])) : W p l e R s m args below meth c H locs cells slots Q (F0 m 1163 ls []) := by
  refine z_aload_n X hl 2 rfl rfl dL_law_1163 ?_
  refine z_aload_n X hl 1 rfl rfl dL_law_1164 ?_
  refine z_iload X hl 0 rfl dL_law_1165 ?_
  refine z_iconst X dL_law_1167 ?_
  refine z_iadd X dL_law_1168 ?_
  refine r_scr (j := kn + 1) X h hX hbl hbA (by omega) (by omega) hL dL_law_1169 ?_
  refine z_aload_n X hl 4 rfl rfl dL_law_1170 ?_
  refine r_lawW (rest := []) X K g h (ct_L_writtenAt hst mc ms u ((xs (kn + 1)).toInt) _ _ hw) lkW_writtenAt ⟨rfl, rfl⟩ ⟨Nat.le_trans (Nat.le_of_ble_eq_true rfl) hR.1, Nat.le_trans (Nat.le_of_ble_eq_true rfl) hR.2⟩ rfl (lv_size hl) rfl (Nat.le_of_ble_eq_true rfl) dL_law_1171 hb (fun z w1 H locs hp h => ?_) (fun w1 H locs hp h => ?_)
  · obtain ⟨rfl, hp⟩ := hp
    have h : HW G A s.heap (LWd G a a' o u v (vp_updL f 0 (Int32.ofInt z).toInt64)) H locs := h
    refine z_istore (i := 5) (lv' := [(5, zI 0), (4, zI (kn : Int)), (0, .ref b), (1, .ref (a 0)), (2, .ref (a' 0)), (3, .ref o)]) X hl (by decide) dL_law_1174 rfl (fun ls hl => ?_)
    refine z_aload_n X hl 4 rfl rfl dL_law_1176 ?_
    refine z_aload_n X hl 2 rfl rfl dL_law_1177 ?_
    refine z_iload X hl 1 rfl dL_law_1178 ?_
    refine z_iconst X dL_law_1180 ?_
    refine z_iadd X dL_law_1181 ?_
    refine r_scr (j := kn + 1) X h hX hbl hbA (by omega) (by omega) hL dL_law_1182 ?_
    refine r_lawM (rest := []) X K g h (ct_X10_writtenAt v ((xs (kn + 1)).toInt) _ hp) lk_L_193 ⟨rfl, rfl⟩ ⟨Nat.le_trans (Nat.le_of_ble_eq_true rfl) hR.1, Nat.le_trans (Nat.le_of_ble_eq_true rfl) hR.2⟩ rfl (lv_size hl) rfl (Nat.le_of_ble_eq_true rfl) dL_law_1183 hb (fun z' v' H locs hq h => ?_)
    refine z_istore (i := 6) (lv' := [(6, zI z'), (5, zI 0), (4, zI (kn : Int)), (0, .ref b), (1, .ref (a 0)), (2, .ref (a' 0)), (3, .ref o)]) X hl (by decide) dL_law_1186 rfl (fun ls hl => ?_)
    refine z_aload_n X hl 5 rfl rfl dL_law_1188 ?_
    refine r_lawMp (rest := []) X K g h (ct_X10_thrown v' _ hq) lk_L_73 ⟨rfl, rfl⟩ ⟨Nat.le_trans (Nat.le_of_ble_eq_true rfl) hR.1, Nat.le_trans (Nat.le_of_ble_eq_true rfl) hR.2⟩ rfl (lv_size hl) rfl (Nat.le_of_ble_eq_true rfl) dL_law_1189 hb (fun t H locs ht h => ?_)
    obtain ⟨rfl, rfl, hN⟩ := ht
    refine z_iload X hl 1 rfl dL_law_1192 ?_
    refine lv_icmp_eq (tgt := 1199) X.1 X.2.1 dL_law_1194 (by decide) (fun _ => ?_) (fun h0 => absurd rfl h0)
    refine z_iload X hl 1 rfl dL_law_1199 ?_
    refine lv_if_ne (tgt := 1216) X.1 X.2.1 dL_law_1201 (by decide) (fun h0 => absurd rfl h0) (fun _ => ?_)
    refine z_aload_n X hl 6 rfl rfl dL_law_1204 ?_
    refine z_iconst X dL_law_1205 ?_
    refine r_lald X K h dL_law_1206 ?_
    refine z_iload X hl 0 rfl dL_law_1207 ?_
    refine lv_i2l X.1 X.2.1 dL_law_1209 rfl ?_
    refine W.lcmp X.1 X.2.1 dL_law_1210 ?_
    rw [show vp_updL f 0 (Int32.ofInt z').toInt64 0 = (Int32.ofInt z').toInt64 from rfl, lg_cmp_rf]
    refine lv_if_eq (tgt := 1216) X.1 X.2.1 dL_law_1211 (by decide) (fun _ => ?_) (fun h0 => absurd rfl h0)
    refine z_goto (tgt := 1398) X dL_law_1216 (by decide) ?_
    exact kk _ _ _ H locs ls hN (lv_sub hl [2, 3, 4, 5, 6] rfl) h
  · obtain ⟨rfl, hp⟩ := hp
    have h : HW G A s.heap (LWd G a a' o u v f) H locs := h
    refine z_istore (i := 5) (lv' := [(5, zI 1), (4, zI (kn : Int)), (0, .ref b), (1, .ref (a 0)), (2, .ref (a' 0)), (3, .ref o)]) X hl (by decide) dL_law_1174 rfl (fun ls hl => ?_)
    refine z_aload_n X hl 4 rfl rfl dL_law_1176 ?_
    refine z_aload_n X hl 2 rfl rfl dL_law_1177 ?_
    refine z_iload X hl 1 rfl dL_law_1178 ?_
    refine z_iconst X dL_law_1180 ?_
    refine z_iadd X dL_law_1181 ?_
    refine r_scr (j := kn + 1) X h hX hbl hbA (by omega) (by omega) hL dL_law_1182 ?_
    refine r_lawM (rest := []) X K g h (ct_X10_writtenAt v ((xs (kn + 1)).toInt) _ hp) lk_L_193 ⟨rfl, rfl⟩ ⟨Nat.le_trans (Nat.le_of_ble_eq_true rfl) hR.1, Nat.le_trans (Nat.le_of_ble_eq_true rfl) hR.2⟩ rfl (lv_size hl) rfl (Nat.le_of_ble_eq_true rfl) dL_law_1183 hb (fun z' v' H locs hq h => ?_)
    refine z_istore (i := 6) (lv' := [(6, zI z'), (5, zI 1), (4, zI (kn : Int)), (0, .ref b), (1, .ref (a 0)), (2, .ref (a' 0)), (3, .ref o)]) X hl (by decide) dL_law_1186 rfl (fun ls hl => ?_)
    refine z_aload_n X hl 5 rfl rfl dL_law_1188 ?_
    refine r_lawMp (rest := []) X K g h (ct_X10_thrown v' _ hq) lk_L_73 ⟨rfl, rfl⟩ ⟨Nat.le_trans (Nat.le_of_ble_eq_true rfl) hR.1, Nat.le_trans (Nat.le_of_ble_eq_true rfl) hR.2⟩ rfl (lv_size hl) rfl (Nat.le_of_ble_eq_true rfl) dL_law_1189 hb (fun t H locs ht h => ?_)
    obtain ⟨rfl, hN⟩ := ht
    refine z_iload X hl 1 rfl dL_law_1192 ?_
    refine lv_icmp_eq (tgt := 1199) X.1 X.2.1 dL_law_1194 (by decide) (fun _ => ?_) (fun h0 => absurd rfl h0)
    refine z_iload X hl 1 rfl dL_law_1199 ?_
    refine lv_if_ne (tgt := 1216) X.1 X.2.1 dL_law_1201 (by decide) (fun _ => ?_) (fun h0 => absurd h0 (by decide))
    refine z_goto (tgt := 1398) X dL_law_1216 (by decide) ?_
    exact kk _ _ _ H locs ls hN (lv_sub hl [2, 3, 4, 5, 6] rfl) h
theorem law_34 {p : Program} {l : Launch} {e : Env} {R : Room} {s : State} {m : MethodId} {args : Array Value} {below : List Frame} {meth : Method} {c : Code} {H : Heap} {locs : List Loc} {cells slots : Nat} {Q : State → Prop} {ls : Array Slot} {G : Gr} {A : Nat → Prop} {a a' : Nat → Nat} {o b L kn : Nat} {u v : St} {f : Nat → Int64} {xs : Nat → Int32} {mc ms : Nat} (hst : l.stackTraces = false) (hR : 40 ≤ R.frames ∧ 1300 ≤ R.locals) (X : CallFix p m c cL_law 9 s args lw_all RL) (K : KK G s) (g : Gd G A s s.heap) (hX : va_X b L xs s s.heap) (hbl : b < s.heap.size) (hbA : ¬ A b) (hL : L ≤ 3072) (hkn : kn + 6 ≤ L) (h : HW G A s.heap (LWd G a a' o u v f) H locs) (hl : lv_has ls 9 [(4, zI (kn : Int)), (0, .ref b), (1, .ref (a 0)), (2, .ref (a' 0)), (3, .ref o)]) (hb : cells + mc ≤ R.cells ∧ slots + ms ≤ R.slots) (N : St → St → Prop) (hw : w_X9_refusals (fun z => w_X10_refusals (fun z' v' => w_X10_thrown (fun t => t = 0 ∧ z' = z ∧ N u v') v') v (xs (kn + 1)).toInt) (w_X10_refusals (fun z' v' => w_X10_thrown (fun t => t = 1 ∧ N u v') v') v (xs (kn + 1)).toInt) mc ms u (xs (kn + 1)).toInt)
    (kk : ∀ (u' v' : St) (f' : Nat → Int64) (H1 : Heap) (locs1 : List Loc) (ls1 : Array Slot), N u' v' → lv_has ls1 9 [(4, zI (kn : Int)), (0, .ref b), (1, .ref (a 0)), (2, .ref (a' 0)), (3, .ref o)] → HW G A s.heap (LWd G a a' o u' v' f') H1 locs1 → W p l e R s m args below meth c H1 locs1 (cells + mc) (slots + ms) Q (F0 m 1398 ls1 [])) : W p l e R s m args below meth c H locs cells slots Q (F0 m 1219 ls []) := by
  refine z_aload_n X hl 2 rfl rfl dL_law_1219 ?_
  refine z_aload_n X hl 1 rfl rfl dL_law_1220 ?_
  refine z_iload X hl 0 rfl dL_law_1221 ?_
  refine z_iconst X dL_law_1223 ?_
  refine z_iadd X dL_law_1224 ?_
  refine r_scr (j := kn + 1) X h hX hbl hbA (by omega) (by omega) hL dL_law_1225 ?_
  refine z_aload_n X hl 4 rfl rfl dL_law_1226 ?_
  refine r_lawW (rest := []) X K g h (ct_L_refusals hst mc ms u ((xs (kn + 1)).toInt) _ _ hw) lkW_refusals ⟨rfl, rfl⟩ ⟨Nat.le_trans (Nat.le_of_ble_eq_true rfl) hR.1, Nat.le_trans (Nat.le_of_ble_eq_true rfl) hR.2⟩ rfl (lv_size hl) rfl (Nat.le_of_ble_eq_true rfl) dL_law_1227 hb (fun z w1 H locs hp h => ?_) (fun w1 H locs hp h => ?_)
  · obtain ⟨rfl, hp⟩ := hp
    have h : HW G A s.heap (LWd G a a' o u v (vp_updL f 0 (Int32.ofInt z).toInt64)) H locs := h
    refine z_istore (i := 5) (lv' := [(5, zI 0), (4, zI (kn : Int)), (0, .ref b), (1, .ref (a 0)), (2, .ref (a' 0)), (3, .ref o)]) X hl (by decide) dL_law_1230 rfl (fun ls hl => ?_)
    refine z_aload_n X hl 4 rfl rfl dL_law_1232 ?_
    refine z_aload_n X hl 2 rfl rfl dL_law_1233 ?_
    refine z_iload X hl 1 rfl dL_law_1234 ?_
    refine z_iconst X dL_law_1236 ?_
    refine z_iadd X dL_law_1237 ?_
    refine r_scr (j := kn + 1) X h hX hbl hbA (by omega) (by omega) hL dL_law_1238 ?_
    refine r_lawM (rest := []) X K g h (ct_X10_refusals v ((xs (kn + 1)).toInt) _ hp) lk_L_196 ⟨rfl, rfl⟩ ⟨Nat.le_trans (Nat.le_of_ble_eq_true rfl) hR.1, Nat.le_trans (Nat.le_of_ble_eq_true rfl) hR.2⟩ rfl (lv_size hl) rfl (Nat.le_of_ble_eq_true rfl) dL_law_1239 hb (fun z' v' H locs hq h => ?_)
    refine z_istore (i := 6) (lv' := [(6, zI z'), (5, zI 0), (4, zI (kn : Int)), (0, .ref b), (1, .ref (a 0)), (2, .ref (a' 0)), (3, .ref o)]) X hl (by decide) dL_law_1242 rfl (fun ls hl => ?_)
    refine z_aload_n X hl 5 rfl rfl dL_law_1244 ?_
    refine r_lawMp (rest := []) X K g h (ct_X10_thrown v' _ hq) lk_L_73 ⟨rfl, rfl⟩ ⟨Nat.le_trans (Nat.le_of_ble_eq_true rfl) hR.1, Nat.le_trans (Nat.le_of_ble_eq_true rfl) hR.2⟩ rfl (lv_size hl) rfl (Nat.le_of_ble_eq_true rfl) dL_law_1245 hb (fun t H locs ht h => ?_)
    obtain ⟨rfl, rfl, hN⟩ := ht
    refine z_iload X hl 1 rfl dL_law_1248 ?_
    refine lv_icmp_eq (tgt := 1255) X.1 X.2.1 dL_law_1250 (by decide) (fun _ => ?_) (fun h0 => absurd rfl h0)
    refine z_iload X hl 1 rfl dL_law_1255 ?_
    refine lv_if_ne (tgt := 1272) X.1 X.2.1 dL_law_1257 (by decide) (fun h0 => absurd rfl h0) (fun _ => ?_)
    refine z_aload_n X hl 6 rfl rfl dL_law_1260 ?_
    refine z_iconst X dL_law_1261 ?_
    refine r_lald X K h dL_law_1262 ?_
    refine z_iload X hl 0 rfl dL_law_1263 ?_
    refine lv_i2l X.1 X.2.1 dL_law_1265 rfl ?_
    refine W.lcmp X.1 X.2.1 dL_law_1266 ?_
    rw [show vp_updL f 0 (Int32.ofInt z').toInt64 0 = (Int32.ofInt z').toInt64 from rfl, lg_cmp_rf]
    refine lv_if_eq (tgt := 1272) X.1 X.2.1 dL_law_1267 (by decide) (fun _ => ?_) (fun h0 => absurd rfl h0)
    refine z_goto (tgt := 1398) X dL_law_1272 (by decide) ?_
    exact kk _ _ _ H locs ls hN (lv_sub hl [2, 3, 4, 5, 6] rfl) h
  · obtain ⟨rfl, hp⟩ := hp
    have h : HW G A s.heap (LWd G a a' o u v f) H locs := h
    refine z_istore (i := 5) (lv' := [(5, zI 1), (4, zI (kn : Int)), (0, .ref b), (1, .ref (a 0)), (2, .ref (a' 0)), (3, .ref o)]) X hl (by decide) dL_law_1230 rfl (fun ls hl => ?_)
    refine z_aload_n X hl 4 rfl rfl dL_law_1232 ?_
    refine z_aload_n X hl 2 rfl rfl dL_law_1233 ?_
    refine z_iload X hl 1 rfl dL_law_1234 ?_
    refine z_iconst X dL_law_1236 ?_
    refine z_iadd X dL_law_1237 ?_
    refine r_scr (j := kn + 1) X h hX hbl hbA (by omega) (by omega) hL dL_law_1238 ?_
    refine r_lawM (rest := []) X K g h (ct_X10_refusals v ((xs (kn + 1)).toInt) _ hp) lk_L_196 ⟨rfl, rfl⟩ ⟨Nat.le_trans (Nat.le_of_ble_eq_true rfl) hR.1, Nat.le_trans (Nat.le_of_ble_eq_true rfl) hR.2⟩ rfl (lv_size hl) rfl (Nat.le_of_ble_eq_true rfl) dL_law_1239 hb (fun z' v' H locs hq h => ?_)
    refine z_istore (i := 6) (lv' := [(6, zI z'), (5, zI 1), (4, zI (kn : Int)), (0, .ref b), (1, .ref (a 0)), (2, .ref (a' 0)), (3, .ref o)]) X hl (by decide) dL_law_1242 rfl (fun ls hl => ?_)
    refine z_aload_n X hl 5 rfl rfl dL_law_1244 ?_
    refine r_lawMp (rest := []) X K g h (ct_X10_thrown v' _ hq) lk_L_73 ⟨rfl, rfl⟩ ⟨Nat.le_trans (Nat.le_of_ble_eq_true rfl) hR.1, Nat.le_trans (Nat.le_of_ble_eq_true rfl) hR.2⟩ rfl (lv_size hl) rfl (Nat.le_of_ble_eq_true rfl) dL_law_1245 hb (fun t H locs ht h => ?_)
    obtain ⟨rfl, hN⟩ := ht
    refine z_iload X hl 1 rfl dL_law_1248 ?_
    refine lv_icmp_eq (tgt := 1255) X.1 X.2.1 dL_law_1250 (by decide) (fun _ => ?_) (fun h0 => absurd rfl h0)
    refine z_iload X hl 1 rfl dL_law_1255 ?_
    refine lv_if_ne (tgt := 1272) X.1 X.2.1 dL_law_1257 (by decide) (fun _ => ?_) (fun h0 => absurd h0 (by decide))
    refine z_goto (tgt := 1398) X dL_law_1272 (by decide) ?_
    exact kk _ _ _ H locs ls hN (lv_sub hl [2, 3, 4, 5, 6] rfl) h
theorem law_35 {p : Program} {l : Launch} {e : Env} {R : Room} {s : State} {m : MethodId} {args : Array Value} {below : List Frame} {meth : Method} {c : Code} {H : Heap} {locs : List Loc} {cells slots : Nat} {Q : State → Prop} {ls : Array Slot} {G : Gr} {A : Nat → Prop} {a a' : Nat → Nat} {o b L kn : Nat} {u v : St} {f : Nat → Int64} {xs : Nat → Int32} (hst : l.stackTraces = false) (hR : 40 ≤ R.frames ∧ 1300 ≤ R.locals) (X : CallFix p m c cL_law 9 s args lw_all RL) (K : KK G s) (g : Gd G A s s.heap) (hX : va_X b L xs s s.heap) (hbl : b < s.heap.size) (hbA : ¬ A b) (hL : L ≤ 3072) (hkn : kn + 6 ≤ L) (h : HW G A s.heap (LWd G a a' o u v f) H locs) (hl : lv_has ls 9 [(4, zI (kn : Int)), (0, .ref b), (1, .ref (a 0)), (2, .ref (a' 0)), (3, .ref o)]) (hb : cells ≤ R.cells ∧ slots ≤ R.slots) (N : St → St → Prop) (hw : w_X9_acts (fun z => w_X10_acts (fun z' v' => z' = z ∧ N u v') v) u)
    (kk : ∀ (u' v' : St) (f' : Nat → Int64) (H1 : Heap) (locs1 : List Loc) (ls1 : Array Slot), N u' v' → lv_has ls1 9 [(4, zI (kn : Int)), (0, .ref b), (1, .ref (a 0)), (2, .ref (a' 0)), (3, .ref o)] → HW G A s.heap (LWd G a a' o u' v' f') H1 locs1 → W p l e R s m args below meth c H1 locs1 (cells) (slots) Q (F0 m 1398 ls1 [])) : W p l e R s m args below meth c H locs cells slots Q (F0 m 1275 ls []) := by
  refine z_aload_n X hl 2 rfl rfl dL_law_1275 ?_
  refine r_lawCp (rest := []) X K g h (ct_X9_acts u  _ hw) lk_L_197 ⟨rfl, rfl⟩ ⟨Nat.le_trans (Nat.le_of_ble_eq_true rfl) hR.1, Nat.le_trans (Nat.le_of_ble_eq_true rfl) hR.2⟩ rfl (lv_size hl) rfl (Nat.le_of_ble_eq_true rfl) dL_law_1276 hb (fun z H locs hp h => ?_)
  refine z_aload_n X hl 3 rfl rfl dL_law_1279 ?_
  refine r_lawM (rest := [zI z]) X K g h (ct_X10_acts v  _ hp) lk_L_200 ⟨rfl, rfl⟩ ⟨Nat.le_trans (Nat.le_of_ble_eq_true rfl) hR.1, Nat.le_trans (Nat.le_of_ble_eq_true rfl) hR.2⟩ rfl (lv_size hl) rfl (Nat.le_of_ble_eq_true rfl) dL_law_1280 hb (fun z' v' H locs hq h => ?_)
  obtain ⟨rfl, hN⟩ := hq
  refine lv_icmp_eq (tgt := 1398) X.1 X.2.1 dL_law_1283 (by decide) (fun _ => ?_) (fun h0 => absurd rfl h0)
  exact kk _ _ _ H locs ls hN hl h
theorem law_38 {p : Program} {l : Launch} {e : Env} {R : Room} {s : State} {m : MethodId} {args : Array Value} {below : List Frame} {meth : Method} {c : Code} {H : Heap} {locs : List Loc} {cells slots : Nat} {Q : State → Prop} {ls : Array Slot} {G : Gr} {A : Nat → Prop} {a a' : Nat → Nat} {o b L kn : Nat} {u v : St} {f : Nat → Int64} {xs : Nat → Int32} (hst : l.stackTraces = false) (hR : 40 ≤ R.frames ∧ 1300 ≤ R.locals) (X : CallFix p m c cL_law 9 s args lw_all RL) (K : KK G s) (g : Gd G A s s.heap) (hX : va_X b L xs s s.heap) (hbl : b < s.heap.size) (hbA : ¬ A b) (hL : L ≤ 3072) (hkn : kn + 6 ≤ L) (h : HW G A s.heap (LWd G a a' o u v f) H locs) (hl : lv_has ls 9 [(4, zI (kn : Int)), (0, .ref b), (1, .ref (a 0)), (2, .ref (a' 0)), (3, .ref o)]) (hb : cells ≤ R.cells ∧ slots ≤ R.slots) (N : St → St → Prop) (hw : w_X9_agree (fun z => w_X10_agree (fun z' v' => z' = z ∧ N u v') v) G u)
    (kk : ∀ (u' v' : St) (f' : Nat → Int64) (H1 : Heap) (locs1 : List Loc) (ls1 : Array Slot), N u' v' → lv_has ls1 9 [(4, zI (kn : Int)), (0, .ref b), (1, .ref (a 0)), (2, .ref (a' 0)), (3, .ref o)] → HW G A s.heap (LWd G a a' o u' v' f') H1 locs1 → W p l e R s m args below meth c H1 locs1 (cells) (slots) Q (F0 m 1398 ls1 [])) : W p l e R s m args below meth c H locs cells slots Q (F0 m 1372 ls []) := by
  refine z_aload_n X hl 2 rfl rfl dL_law_1372 ?_
  refine r_lawCp (rest := []) X K g h (ct_X9_agree u  _ hw) lk_L_211 ⟨rfl, rfl⟩ ⟨Nat.le_trans (Nat.le_of_ble_eq_true rfl) hR.1, Nat.le_trans (Nat.le_of_ble_eq_true rfl) hR.2⟩ rfl (lv_size hl) rfl (Nat.le_of_ble_eq_true rfl) dL_law_1373 hb (fun z H locs hp h => ?_)
  refine z_aload_n X hl 3 rfl rfl dL_law_1376 ?_
  refine r_lawM (rest := [zI z]) X K g h (ct_X10_agree v  _ hp) lk_L_214 ⟨rfl, rfl⟩ ⟨Nat.le_trans (Nat.le_of_ble_eq_true rfl) hR.1, Nat.le_trans (Nat.le_of_ble_eq_true rfl) hR.2⟩ rfl (lv_size hl) rfl (Nat.le_of_ble_eq_true rfl) dL_law_1377 hb (fun z' v' H locs hq h => ?_)
  obtain ⟨rfl, hN⟩ := hq
  refine lv_icmp_eq (tgt := 1398) X.1 X.2.1 dL_law_1380 (by decide) (fun _ => ?_) (fun h0 => absurd rfl h0)
  exact kk _ _ _ H locs ls hN hl h
theorem law_39 {p : Program} {l : Launch} {e : Env} {R : Room} {s : State} {m : MethodId} {args : Array Value} {below : List Frame} {meth : Method} {c : Code} {H : Heap} {locs : List Loc} {cells slots : Nat} {Q : State → Prop} {ls : Array Slot} {G : Gr} {A : Nat → Prop} {a a' : Nat → Nat} {o b L kn : Nat} {u v : St} {f : Nat → Int64} {xs : Nat → Int32} (hst : l.stackTraces = false) (hR : 40 ≤ R.frames ∧ 1300 ≤ R.locals) (X : CallFix p m c cL_law 9 s args lw_all RL) (K : KK G s) (g : Gd G A s s.heap) (hX : va_X b L xs s s.heap) (hbl : b < s.heap.size) (hbA : ¬ A b) (hL : L ≤ 3072) (hkn : kn + 6 ≤ L) (h : HW G A s.heap (LWd G a a' o u v f) H locs) (hl : lv_has ls 9 [(4, zI (kn : Int)), (0, .ref b), (1, .ref (a 0)), (2, .ref (a' 0)), (3, .ref o)]) (hb : cells ≤ R.cells ∧ slots ≤ R.slots) (N : St → St → Prop) (hw : w_X9_errors (fun z => w_X10_errors (fun z' v' => z' = z ∧ N u v') v) u)
    (kk : ∀ (u' v' : St) (f' : Nat → Int64) (H1 : Heap) (locs1 : List Loc) (ls1 : Array Slot), N u' v' → lv_has ls1 9 [(4, zI (kn : Int)), (0, .ref b), (1, .ref (a 0)), (2, .ref (a' 0)), (3, .ref o)] → HW G A s.heap (LWd G a a' o u' v' f') H1 locs1 → W p l e R s m args below meth c H1 locs1 (cells) (slots) Q (F0 m 1398 ls1 [])) : W p l e R s m args below meth c H locs cells slots Q (F0 m 1385 ls []) := by
  refine z_aload_n X hl 2 rfl rfl dL_law_1385 ?_
  refine r_lawCp (rest := []) X K g h (ct_X9_errors u  _ hw) lk_L_215 ⟨rfl, rfl⟩ ⟨Nat.le_trans (Nat.le_of_ble_eq_true rfl) hR.1, Nat.le_trans (Nat.le_of_ble_eq_true rfl) hR.2⟩ rfl (lv_size hl) rfl (Nat.le_of_ble_eq_true rfl) dL_law_1386 hb (fun z H locs hp h => ?_)
  refine z_aload_n X hl 3 rfl rfl dL_law_1389 ?_
  refine r_lawM (rest := [zI z]) X K g h (ct_X10_errors v  _ hp) lk_L_218 ⟨rfl, rfl⟩ ⟨Nat.le_trans (Nat.le_of_ble_eq_true rfl) hR.1, Nat.le_trans (Nat.le_of_ble_eq_true rfl) hR.2⟩ rfl (lv_size hl) rfl (Nat.le_of_ble_eq_true rfl) dL_law_1390 hb (fun z' v' H locs hq h => ?_)
  obtain ⟨rfl, hN⟩ := hq
  refine lv_icmp_eq (tgt := 1398) X.1 X.2.1 dL_law_1393 (by decide) (fun _ => ?_) (fun h0 => absurd rfl h0)
  exact kk _ _ _ H locs ls hN hl h
