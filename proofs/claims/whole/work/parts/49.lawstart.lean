/-! the law from its entry: the two objects made, the loop, its end -/
theorem q_acL4 : Cond.arrayClass .long ∈ lw_all := lwa_all (L := [Cond.arrayClass .long]) (by decide +kernel) _ List.mem_cons_self
theorem qcl_L_8 : Cond.classLink RL 8 RX9 ∈ lw_all := lwa_all (L := [Cond.classLink RL 8 RX9]) (by decide +kernel) _ List.mem_cons_self
theorem qcl_L_56 : Cond.classLink RL 56 RX10 ∈ lw_all := lwa_all (L := [Cond.classLink RL 56 RX10]) (by decide +kernel) _ List.mem_cons_self
theorem qin_X9 : Cond.instantiable RX9 8 ∈ lw_all := lwa_all (L := [Cond.instantiable RX9 8]) (by decide +kernel) _ List.mem_cons_self
theorem qin_X10 : Cond.instantiable RX10 30 ∈ lw_all := lwa_all (L := [Cond.instantiable RX10 30]) (by decide +kernel) _ List.mem_cons_self
theorem qni_X9 : Cond.initialized RX9 ∈ lw_all := lwa_all (L := [Cond.initialized RX9]) (by decide +kernel) _ List.mem_cons_self
theorem qni_X10 : Cond.initialized RX10 ∈ lw_all := lwa_all (L := [Cond.initialized RX10]) (by decide +kernel) _ List.mem_cons_self
theorem ql_L_55 : Cond.methodLink RL 55 yX9_init ∈ lw_all := lwa_all (L := [Cond.methodLink RL 55 yX9_init]) (by decide +kernel) _ List.mem_cons_self
theorem ql_L_58 : Cond.methodLink RL 58 yX10_init ∈ lw_all := lwa_all (L := [Cond.methodLink RL 58 yX10_init]) (by decide +kernel) _ List.mem_cons_self
theorem lkI_L_55 : LkI RL 55 yX9_init cX9_init 1 0 := LkI.of ql_L_55 qi_X9_init qn_X9_init qc_X9_init rfl (by decide +kernel)
theorem lkI_L_58 : LkI RL 58 yX10_init cX10_init 1 0 := LkI.of ql_L_58 qi_X10_init qn_X10_init qc_X10_init rfl (by decide +kernel)
section
variable {p : Program} {l : Launch} {e : Env} {R : Room} {s : State} {m : MethodId} {args : Array Value} {below : List Frame} {meth : Method} {c : Code} {H : Heap} {locs : List Loc} {cells slots : Nat} {Q : State → Prop}
variable {cc : ByteArray} {own : String} {nL pc : Nat} {ls : Array Slot} {rest : List Value} {G : Gr} {A : Nat → Prop} {w : va_W}
theorem r_newL (X : CallFix p m c cc nL s args lw_all own) (K : KK G s) (h : HW G A s.heap w H locs) (hb : cells + 1 ≤ R.cells ∧ slots + 1 ≤ R.slots) (hdg : decode cc pc = .ok (.newarray .long, 2))
    (kk : ∀ (q : Nat) (H1 : Heap), HW G A s.heap (w ++ [(q, longE G (fun _ => 0))]) H1 locs → W p l e R s m args below meth c H1 locs (cells + 1) (slots + 1) Q (F0 m (pc + 2) ls (.ref q :: rest))) : W p l e R s m args below meth c H locs cells slots Q (F0 m pc ls (zI 1 :: rest)) := by
  refine va_newa (atype := .long) (ty := .long) (N' := 1) (a0 := (1, .inr (.inl (fun _ => 0)))) X.1 X.2.1 (X.2.2.2.2 _ q_acL4) rfl K h.1 h.2.1 h.2.2.1 h.2.2.2 (fun cA => rfl) (by decide) (by decide) (by decide) hb.1 hb.2 hdg (fun q cA H1 hK1 hP hD hS => ?_)
  have h4 := (hK1.2 (tys_ G.2.1).length (cA, .long) (by rw [List.getElem?_append_right (Nat.le_refl _), Nat.sub_self]; rfl)).2
  have h4' := (K.2 4 (G.2.1 4, .long) rfl).2
  have e1 : cA = G.2.1 4 := Option.some.inj (h4.symm.trans h4')
  subst e1
  exact kk q H1 ⟨hP, hD, hS, h.2.2.2⟩
end
set_option maxRecDepth 100000 in
set_option maxHeartbeats 4000000 in
theorem law_start {p : Program} {l : Launch} {e : Env} {R : Room} {s : State} {m : MethodId} {args : Array Value} {below : List Frame} {meth : Method} {c : Code} {Q : State → Prop} {ls : Array Slot} {G : Gr} {A : Nat → Prop} {b L : Nat} {xs : Nat → Int32} {Inv : Nat → Nat → Nat → St → St → Prop} (hst : l.stackTraces = false) (hR : 40 ≤ R.frames ∧ 1300 ≤ R.locals) (hRc : R.cells = 601024 ∧ R.slots = 7293034) (X : CallFix p m c cL_law 9 s args lw_all RL) (K : KK G s) (g : Gd G A s s.heap) (hX : va_X b L xs s s.heap) (hbl : b < s.heap.size) (hbA : ¬ A b) (hA : ∀ q : Nat, s.heap.size ≤ q → A q) (hL : L ≤ 3072) (hS : Steps G Inv)
    (hI : ∀ (r0 : Option Nat) (ns L1 : List Nat) (f1 : Nat → va_E), Spare [] (fun _ => ndE 0 none none) 100 r0 ns L1 f1 → Inv 0 141 10226 (uC0 G.2.2.2.2 r0 L1 f1) uM0) (hl : lv_has ls 9 [(0, .ref b)])
    (kend : ∀ (d : Drawn) (c' sl' : Nat) (H1 : Heap) (locs1 : List Loc) (ls1 : Array Slot), s.drawn.sameBut d lw_cs → c' ≤ 601024 ∧ sl' ≤ 7293034 → va_S A s.heap H1 locs1 → W p l e R (s.setDrawn d) m args below meth c H1 locs1 c' sl' Q (F0 m 1404 ls1 [])) : W p l e R s m args below meth c s.heap [] 0 0 Q (F0 m 0 ls []) := by
  have h : HW G A s.heap (wq [] [] [] (fun _ => ndE 0 none none)) s.heap [] := ⟨(fun k q hk => nomatch hk), ⟨(fun i j p q hp => nomatch hp), (fun k q hk => nomatch hk)⟩, va_S.rf, hA⟩
  have hf : 40 ≤ R.frames ∧ 1300 ≤ R.locals := hR
  refine r_newQ X K h inX9 tyX9_ok (ci := 9) (fs := [.null, .null, .null, zI 0, zI 0, zI 0, .null, zI 0]) rfl qcl_L_8 qin_X9 qni_X9 (fun j hj => by rcases (show j = 0 ∨ j = 1 ∨ j = 2 ∨ j = 3 ∨ j = 4 ∨ j = 5 ∨ j = 6 ∨ j = 7 by omega) with rfl | rfl | rfl | rfl | rfl | rfl | rfl | rfl <;> rfl) ⟨by rw [hRc.1]; decide, by rw [hRc.2]; decide⟩ dL_law_0 (fun q H h => ?_)
  refine z_dup X rfl dL_law_3 ?_
  refine r_callIv X K g h (ct_X9_init q) lkI_L_55 ⟨rfl, rfl⟩ ⟨Nat.le_trans (Nat.le_of_ble_eq_true rfl) hR.1, Nat.le_trans (Nat.le_of_ble_eq_true rfl) hR.2⟩ rfl (lv_size hl) rfl (Nat.le_of_ble_eq_true rfl) dL_law_4 ⟨by rw [hRc.1]; decide, by rw [hRc.2]; decide⟩ (fun w' H locs hp h => ?_)
  obtain ⟨a1, a2, a3, a4, a5, a6, a7, a8, a9, a10, a11, a12, a13, a14, a15, a16, a17, a18, a19, a20, a21, a22, a23, r0, ns, L1, f1, hsp, rfl⟩ := hp
  have hW := h.perm (made_C q a1 a2 a3 a4 a5 a6 a7 a8 a9 a10 a11 a12 a13 a14 a15 a16 a17 a18 a19 a20 a21 a22 a23)
  generalize ha : plN [q, a1, a11, a2, a3, a4, a5, a6, a15, a17, a14, a12, a13, a7, a8, a9, a10, a16, a18, a19, a20, a21, a22, a23] = a at hW
  have ha0 : q = a 0 := by rw [← ha]; rfl
  have hu := hI r0 ns L1 f1 hsp
  generalize uC0 G.2.2.2.2 r0 L1 f1 = u at hW hu
  subst ha0
  refine z_astore_n (i := 1) (lv' := [(1, .ref (a 0)), (0, .ref b)]) X hl rfl (by decide) dL_law_7 rfl (fun ls hl => ?_)
  have h : HW G A s.heap (wq (WC G a u) [] [] (fun _ => ndE 0 none none)) H locs := by
    unfold wq va_pl
    rw [List.map_nil, List.append_nil, List.append_nil]
    exact hW
  refine r_newQ X K h inX10 tyX10_ok (ci := 10) (fs := [zI 0, .null, .null, zI 0, zI 0, zI 0, zI 0, .null, .null, .null, .null, zI 0, .null, zI 0, zI 0, zI 0, zI 0, zI 0, zI 0, zI 0, .null, .null, .null, .null, zI 0, .null, .null, .null, .null, zI 0]) rfl qcl_L_56 qin_X10 qni_X10 (fun j hj => by rcases (show j = 0 ∨ j = 1 ∨ j = 2 ∨ j = 3 ∨ j = 4 ∨ j = 5 ∨ j = 6 ∨ j = 7 ∨ j = 8 ∨ j = 9 ∨ j = 10 ∨ j = 11 ∨ j = 12 ∨ j = 13 ∨ j = 14 ∨ j = 15 ∨ j = 16 ∨ j = 17 ∨ j = 18 ∨ j = 19 ∨ j = 20 ∨ j = 21 ∨ j = 22 ∨ j = 23 ∨ j = 24 ∨ j = 25 ∨ j = 26 ∨ j = 27 ∨ j = 28 ∨ j = 29 by omega) with rfl | rfl | rfl | rfl | rfl | rfl | rfl | rfl | rfl | rfl | rfl | rfl | rfl | rfl | rfl | rfl | rfl | rfl | rfl | rfl | rfl | rfl | rfl | rfl | rfl | rfl | rfl | rfl | rfl | rfl <;> rfl) ⟨by rw [hRc.1]; decide, by rw [hRc.2]; decide⟩ dL_law_8 (fun q2 H h => ?_)
  refine z_dup X rfl dL_law_11 ?_
  refine r_callIv X K g h (ct_X10_init q2) lkI_L_58 ⟨rfl, rfl⟩ ⟨Nat.le_trans (Nat.le_of_ble_eq_true rfl) hR.1, Nat.le_trans (Nat.le_of_ble_eq_true rfl) hR.2⟩ rfl (lv_size hl) rfl (Nat.le_of_ble_eq_true rfl) dL_law_12 ⟨by rw [hRc.1]; decide, by rw [hRc.2]; decide⟩ (fun w' H locs hp h => ?_)
  obtain ⟨b1, b2, b3, b4, b5, b6, b7, b8, b9, b10, b11, b12, b13, b14, b15, rfl⟩ := hp
  have hM := h
  rw [made_M] at hM
  generalize ha' : plN [q2, b1, b2, b3, b4, b5, b6, b7, b8, b9, b10, b11, b12, b13, b14, b15] = a' at hM
  have ha0 : q2 = a' 0 := by rw [← ha']; rfl
  subst ha0
  refine z_astore_n (i := 2) (lv' := [(2, .ref (a' 0)), (1, .ref (a 0)), (0, .ref b)]) X hl rfl (by decide) dL_law_15 rfl (fun ls hl => ?_)
  refine z_iconst X dL_law_16 ?_
  refine r_newL X K hM ⟨by rw [hRc.1]; decide, by rw [hRc.2]; decide⟩ dL_law_17 (fun o H h => ?_)
  refine z_astore_n (i := 3) (lv' := [(3, .ref o), (2, .ref (a' 0)), (1, .ref (a 0)), (0, .ref b)]) X hl rfl (by decide) dL_law_19 rfl (fun ls hl => ?_)
  refine z_iconst X dL_law_20 ?_
  refine z_istore (i := 4) (lv' := [(4, zI 0), (3, .ref o), (2, .ref (a' 0)), (1, .ref (a 0)), (0, .ref b)]) X hl (by decide) dL_law_21 rfl (fun ls hl => ?_)
  have h : HW G A s.heap (LWd G a a' o u uM0 (fun _ => 0)) H locs := by
    unfold LWd
    rw [← List.append_assoc]
    exact h
  refine W.base ?_
  exact law_loop hst hR hRc X K g hX hbl hbA hL hS kend L 0 0 u uM0 (fun _ => 0) s.drawn 141 10226 H locs ls (by omega) (by omega) rfl (Drawn.sameBut.refl s.drawn lw_cs) hu ⟨by decide, by decide⟩ (lv_sub hl [0, 4, 3, 2, 1] rfl) h
