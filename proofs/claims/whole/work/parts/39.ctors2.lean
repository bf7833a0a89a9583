/-! constructors of the class -/
theorem va_pl_two {L : List Nat} {f : Nat → va_E} {a b : Nat} {z : va_E} (ha : a ∉ L) (hb : b ∉ L) : va_pl (L ++ [a, b]) (vr_up f [a, b] z) = va_pl L f ++ [(a, z), (b, z)] := by
  have h := vr_rows (L := L) (l := [a, b]) (f := f) (e := z) (fun q hq => by rcases List.mem_cons.mp hq with rfl | hq; exact ha; rw [List.mem_singleton] at hq; exact hq ▸ hb)
  exact h.symm
theorem wq_rows {x t : va_W} {L : List Nat} {f : Nat → va_E} {c d e : Nat × va_E} : (((x ++ t) ++ [c]) ++ (va_pl L f ++ [d, e])).Perm (wq x (t ++ [c, d, e]) L f) := by
  have h : (((x ++ t) ++ [c]) ++ (va_pl L f ++ [d, e])).Perm (((x ++ t) ++ [c]) ++ ([d, e] ++ va_pl L f)) := List.Perm.append_left _ List.perm_append_comm
  have e1 : ((x ++ t) ++ [c]) ++ ([d, e] ++ va_pl L f) = wq x (t ++ [c, d, e]) L f := by
    unfold wq
    simp only [List.append_assoc, List.cons_append, List.nil_append]
  exact e1 ▸ h
theorem inner_cell (c : ClassId) (N : Nat) : Jvm.Free.Multi.innerC c N (.int 0) = vp_cell c (N, .inl (aI (fun _ => 0))) := by
  rw [vp_cell0]
  unfold Jvm.Free.Multi.innerC arrV
  exact congrArg (fun s => ({ cls := c, slots := s, vm := .none } : Cell)) (Array.ext (by rw [Array.size_replicate, Array.size_ofFn]) (fun i h1 h2 => by rw [Array.getElem_replicate, Array.getElem_ofFn]))
section
variable {p : Program} {l : Launch} {e : Env} {R : Room} {s : State} {m : MethodId} {args : Array Value} {below : List Frame} {meth : Method} {c : Code} {H : Heap} {locs : List Loc} {cells slots : Nat} {Q : State → Prop}
variable {cc : ByteArray} {own : String} {nL pc : Nat} {ls : Array Slot} {rest : List Value} {G : Gr} {A : Nat → Prop} {x t : va_W} {L : List Nat} {f : Nat → va_E}
theorem r_mna (X : CallFix p m c cc nL s args lw_all own) (K : KK G s) (g : Gd G A s s.heap) (h : HW G A s.heap (wq x t L f) H locs) {idx : Nat} (hcl : Cond.classLink own idx "[[I" ∈ lw_all) (hb : cells + 3 ≤ R.cells ∧ slots + 202 ≤ R.slots) (hdg : decode cc pc = .ok (.multianewarray idx 2, 4))
    (kk : ∀ (q a b : Nat) (H1 : Heap), HW G A s.heap (wq x (t ++ [(q, .inl (G.2.1 3, 2, .inr (.inr (.inr (.inr (fun j => if j < 2 then (if j = 0 then some a else some b) else none)))))), (a, .inl (G.2.1 0, 100, .inl (aI (fun _ => 0)))), (b, .inl (G.2.1 0, 100, .inl (aI (fun _ => 0))))]) L f) H1 locs → W p l e R s m args below meth c H1 locs (cells + 3) (slots + 202) Q (F0 m (pc + 4) ls (.ref q :: rest))) : W p l e R s m args below meth c H locs cells slots Q (F0 m pc ls (zI 100 :: zI 2 :: rest)) := by
  refine va_mna (ty := .int) (cy := G.2.1 0) (N' := 2) (K' := 100) (z := (100, .inl (aI (fun _ => 0)))) X.1 X.2.1 X.2.2.2.1 (X.2.2.2.2 _ hcl) g.2.2.2.2.2.2.2 (X.2.2.2.2 _ q_acI4) ?_ K h.1 h.2.1 h.2.2.1 h.2.2.2 (by decide) (by decide) (by decide) (by decide) (by decide) (by decide) (by decide) (by decide) (by decide) hb.1 hb.2 (fun c9 => inner_cell c9 100) hdg (fun q r cA H1 hr1 hr2 hK1 hP hD hS => ?_)
  · have h4' := (K.2 0 (G.2.1 0, .int) rfl).2
    exact h4'
  · have h4 := (hK1.2 (tys_ G.2.1).length (cA, .array .int) (by rw [List.getElem?_append_right (Nat.le_refl _), Nat.sub_self]; rfl)).2
    have h4' := (K.2 3 (G.2.1 3, .array .int) rfl).2
    have e1 : cA = G.2.1 3 := Option.some.inj (h4.symm.trans h4')
    subst e1
    have e2 : (fun i => if i < 2 then some (r i) else none) = (fun j => if j < 2 then (if j = 0 then some (r 0) else some (r 1)) else none) := funext fun j => by
      rcases j with _ | _ | j
      · rfl
      · rfl
      · exact (if_neg (by omega)).trans (if_neg (by omega)).symm
    have e3 : (List.range 2).map r = [r 0, r 1] := rfl
    rw [e2, e3, va_pl_two (hr2 0 (by decide)) (hr2 1 (by decide))] at hP hD
    exact kk q (r 0) (r 1) H1 (HW.perm wq_rows ⟨hP, hD, hS, h.2.2.2⟩)
end
theorem qo_X6_init : Cond.methodLink RX6 3 Lib.objectInit ∈ lw_all := lwa_all (L := [Cond.methodLink RX6 3 Lib.objectInit]) (by decide +kernel) _ List.mem_cons_self
theorem qcl_X6_9 : Cond.classLink RX6 9 "[[I" ∈ lw_all := lwa_all (L := [Cond.classLink RX6 9 "[[I"]) (by decide +kernel) _ List.mem_cons_self
set_option maxRecDepth 100000 in
set_option maxHeartbeats 4000000 in
theorem ct_X6_init {l : Launch} {G : Gr} {x : va_W} {L : List Nat} {f : Nat → va_E} (q : Nat) : CtV l G yX6_init (ws_ yX6_init cX6_init 1 none) { frames := 1, cells := 4, slots := 204, locals := 12 } [.ref q] (wq x [(q, .inr (6, [.null, .null]))] L f) 4 204 (fun w' => ∃ (a1 a2 a3 a4 : Nat), w' = wq x [(q, .inr (6, [.ref a1, .ref a4])), (a1, .inl (G.2.1 3, 2, .inr (.inr (.inr (.inr (fun j => if j < 2 then (if j = 0 then some a2 else some a3) else none)))))), (a2, .inl (G.2.1 0, 100, .inl (aI (fun _ => 0)))), (a3, .inl (G.2.1 0, 100, .inl (aI (fun _ => 0)))), (a4, .inl (G.2.1 0, 2, .inl (aI (fun _ => 0))))] L f) := by
  refine CtV.ofInit (by decide) rfl (Nat.le_of_ble_eq_true rfl) ?_
  intro p e s m args below meth c ls hname X hr hlk K g h hl
  have hl : lv_has ls 1 [(0, .ref q)] := hl
  refine z_aload_n X hl 0 rfl rfl dX6_init_0 ?_
  refine r_objInit X qo_X6_init (lv_size hl) ⟨Nat.le_of_ble_eq_true rfl, Nat.le_of_ble_eq_true rfl⟩ dX6_init_1 ?_
  refine z_aload_n X hl 0 rfl rfl dX6_init_4 ?_
  refine z_iconst X dX6_init_5 ?_
  refine z_bipush (v := 100) X dX6_init_6 (by decide) ?_
  refine r_mna X K g h qcl_X6_9 ⟨Nat.le_of_ble_eq_true rfl, Nat.le_of_ble_eq_true rfl⟩ dX6_init_8 (fun a1 a2 a3 H h => ?_)
  refine r_putF X K h inX6 tyX6_ok nmX6 0 rfl rfl 0 (by decide) q_197 rfl hname rfl rfl rfl (Nat.le_of_ble_eq_true rfl) dX6_init_12 (fun H locs h => ?_)
  refine z_aload_n X hl 0 rfl rfl dX6_init_15 ?_
  refine z_iconst X dX6_init_16 ?_
  refine r_newI X K h 2 rfl (by decide) ⟨Nat.le_of_ble_eq_true rfl, Nat.le_of_ble_eq_true rfl⟩ dX6_init_17 (fun a4 H h => ?_)
  refine r_putF X K h inX6 tyX6_ok nmX6 0 rfl rfl 1 (by decide) q_198 rfl hname rfl rfl rfl (Nat.le_of_ble_eq_true rfl) dX6_init_19 (fun H locs h => ?_)
  exact r_vret X hr hlk K h (Nat.le_refl _) (Nat.le_refl _) dX6_init_22 ⟨a1, a2, a3, a4, rfl⟩
theorem qo_X8_init : Cond.methodLink RX8 3 Lib.objectInit ∈ lw_all := lwa_all (L := [Cond.methodLink RX8 3 Lib.objectInit]) (by decide +kernel) _ List.mem_cons_self
set_option maxRecDepth 100000 in
set_option maxHeartbeats 4000000 in
theorem ct_X8_init {l : Launch} {G : Gr} {x : va_W} {L : List Nat} {f : Nat → va_E} (q : Nat) : CtV l G yX8_init (ws_ yX8_init cX8_init 1 none) { frames := 1, cells := 1, slots := 300, locals := 12 } [.ref q] (wq x [(q, .inr (8, [.null, zI 0]))] L f) 1 300 (fun w' => ∃ (a1 : Nat), w' = wq x [(q, .inr (8, [.ref a1, zI 0])), (a1, .inl (G.2.1 0, 300, .inl (aI (fun _ => 0))))] L f) := by
  refine CtV.ofInit (by decide) rfl (Nat.le_of_ble_eq_true rfl) ?_
  intro p e s m args below meth c ls hname X hr hlk K g h hl
  have hl : lv_has ls 1 [(0, .ref q)] := hl
  refine z_aload_n X hl 0 rfl rfl dX8_init_0 ?_
  refine r_objInit X qo_X8_init (lv_size hl) ⟨Nat.le_of_ble_eq_true rfl, Nat.le_of_ble_eq_true rfl⟩ dX8_init_1 ?_
  refine z_aload_n X hl 0 rfl rfl dX8_init_4 ?_
  refine z_sipush (v := 300) X dX8_init_5 (by decide) ?_
  refine r_newI X K h 300 rfl (by decide) ⟨Nat.le_of_ble_eq_true rfl, Nat.le_of_ble_eq_true rfl⟩ dX8_init_8 (fun a1 H h => ?_)
  refine r_putF X K h inX8 tyX8_ok nmX8 0 rfl rfl 0 (by decide) q_267 rfl hname rfl rfl rfl (Nat.le_of_ble_eq_true rfl) dX8_init_10 (fun H locs h => ?_)
  exact r_vret X hr hlk K h (Nat.le_refl _) (Nat.le_refl _) dX8_init_13 ⟨a1, rfl⟩
theorem qo_X7_init : Cond.methodLink RX7 3 Lib.objectInit ∈ lw_all := lwa_all (L := [Cond.methodLink RX7 3 Lib.objectInit]) (by decide +kernel) _ List.mem_cons_self
set_option maxRecDepth 100000 in
set_option maxHeartbeats 4000000 in
theorem ct_X7_init {l : Launch} {G : Gr} {x : va_W} {L : List Nat} {f : Nat → va_E} (q : Nat) : CtV l G yX7_init (ws_ yX7_init cX7_init 1 none) { frames := 1, cells := 5, slots := 1204, locals := 12 } [.ref q] (wq x [(q, .inr (7, [.null, .null, .null, .null, .null, zI 0, zI 0]))] L f) 5 1204 (fun w' => ∃ (a1 a2 a3 a4 a5 : Nat), w' = wq x [(q, .inr (7, [.ref a1, .ref a2, .ref a3, .ref a4, .ref a5, zI 0, zI 0])), (a1, .inl (G.2.1 0, 300, .inl (aI (fun _ => 0)))), (a2, .inl (G.2.1 0, 300, .inl (aI (fun _ => 0)))), (a3, .inl (G.2.1 0, 300, .inl (aI (fun _ => 0)))), (a4, .inl (G.2.1 0, 300, .inl (aI (fun _ => 0)))), (a5, .inl (G.2.1 0, 4, .inl (aI (fun _ => 0))))] L f) := by
  refine CtV.ofInit (by decide) rfl (Nat.le_of_ble_eq_true rfl) ?_
  intro p e s m args below meth c ls hname X hr hlk K g h hl
  have hl : lv_has ls 1 [(0, .ref q)] := hl
  refine z_aload_n X hl 0 rfl rfl dX7_init_0 ?_
  refine r_objInit X qo_X7_init (lv_size hl) ⟨Nat.le_of_ble_eq_true rfl, Nat.le_of_ble_eq_true rfl⟩ dX7_init_1 ?_
  refine z_aload_n X hl 0 rfl rfl dX7_init_4 ?_
  refine z_sipush (v := 300) X dX7_init_5 (by decide) ?_
  refine r_newI X K h 300 rfl (by decide) ⟨Nat.le_of_ble_eq_true rfl, Nat.le_of_ble_eq_true rfl⟩ dX7_init_8 (fun a1 H h => ?_)
  refine r_putF X K h inX7 tyX7_ok nmX7 0 rfl rfl 0 (by decide) q_283 rfl hname rfl rfl rfl (Nat.le_of_ble_eq_true rfl) dX7_init_10 (fun H locs h => ?_)
  refine z_aload_n X hl 0 rfl rfl dX7_init_13 ?_
  refine z_sipush (v := 300) X dX7_init_14 (by decide) ?_
  refine r_newI X K h 300 rfl (by decide) ⟨Nat.le_of_ble_eq_true rfl, Nat.le_of_ble_eq_true rfl⟩ dX7_init_17 (fun a2 H h => ?_)
  refine r_putF X K h inX7 tyX7_ok nmX7 0 rfl rfl 1 (by decide) q_284 rfl hname rfl rfl rfl (Nat.le_of_ble_eq_true rfl) dX7_init_19 (fun H locs h => ?_)
  refine z_aload_n X hl 0 rfl rfl dX7_init_22 ?_
  refine z_sipush (v := 300) X dX7_init_23 (by decide) ?_
  refine r_newI X K h 300 rfl (by decide) ⟨Nat.le_of_ble_eq_true rfl, Nat.le_of_ble_eq_true rfl⟩ dX7_init_26 (fun a3 H h => ?_)
  refine r_putF X K h inX7 tyX7_ok nmX7 0 rfl rfl 2 (by decide) q_285 rfl hname rfl rfl rfl (Nat.le_of_ble_eq_true rfl) dX7_init_28 (fun H locs h => ?_)
  refine z_aload_n X hl 0 rfl rfl dX7_init_31 ?_
  refine z_sipush (v := 300) X dX7_init_32 (by decide) ?_
  refine r_newI X K h 300 rfl (by decide) ⟨Nat.le_of_ble_eq_true rfl, Nat.le_of_ble_eq_true rfl⟩ dX7_init_35 (fun a4 H h => ?_)
  refine r_putF X K h inX7 tyX7_ok nmX7 0 rfl rfl 3 (by decide) q_286 rfl hname rfl rfl rfl (Nat.le_of_ble_eq_true rfl) dX7_init_37 (fun H locs h => ?_)
  refine z_aload_n X hl 0 rfl rfl dX7_init_40 ?_
  refine z_iconst X dX7_init_41 ?_
  refine r_newI X K h 4 rfl (by decide) ⟨Nat.le_of_ble_eq_true rfl, Nat.le_of_ble_eq_true rfl⟩ dX7_init_42 (fun a5 H h => ?_)
  refine r_putF X K h inX7 tyX7_ok nmX7 0 rfl rfl 4 (by decide) q_287 rfl hname rfl rfl rfl (Nat.le_of_ble_eq_true rfl) dX7_init_44 (fun H locs h => ?_)
  exact r_vret X hr hlk K h (Nat.le_refl _) (Nat.le_refl _) dX7_init_47 ⟨a1, a2, a3, a4, a5, rfl⟩
theorem qo_X2_init : Cond.methodLink RX2 3 Lib.objectInit ∈ lw_all := lwa_all (L := [Cond.methodLink RX2 3 Lib.objectInit]) (by decide +kernel) _ List.mem_cons_self
set_option maxRecDepth 100000 in
set_option maxHeartbeats 4000000 in
theorem ct_X2_init {l : Launch} {G : Gr} {x : va_W} {L : List Nat} {f : Nat → va_E} (q : Nat) : CtV l G yX2_init (ws_ yX2_init cX2_init 1 none) { frames := 1, cells := 2, slots := 100, locals := 12 } [.ref q] (wq x [(q, .inr (2, [.null, .null, zI 0, zI 0]))] L f) 2 100 (fun w' => ∃ (a1 a2 : Nat), w' = wq x [(q, .inr (2, [.ref a1, .ref a2, zI 0, zI 0])), (a1, .inl (G.2.1 0, 50, .inl (aI (fun _ => 0)))), (a2, .inl (G.2.1 0, 50, .inl (aI (fun _ => 0))))] L f) := by
  refine CtV.ofInit (by decide) rfl (Nat.le_of_ble_eq_true rfl) ?_
  intro p e s m args below meth c ls hname X hr hlk K g h hl
  have hl : lv_has ls 1 [(0, .ref q)] := hl
  refine z_aload_n X hl 0 rfl rfl dX2_init_0 ?_
  refine r_objInit X qo_X2_init (lv_size hl) ⟨Nat.le_of_ble_eq_true rfl, Nat.le_of_ble_eq_true rfl⟩ dX2_init_1 ?_
  refine z_aload_n X hl 0 rfl rfl dX2_init_4 ?_
  refine z_bipush (v := 50) X dX2_init_5 (by decide) ?_
  refine r_newI X K h 50 rfl (by decide) ⟨Nat.le_of_ble_eq_true rfl, Nat.le_of_ble_eq_true rfl⟩ dX2_init_7 (fun a1 H h => ?_)
  refine r_putF X K h inX2 tyX2_ok nmX2 0 rfl rfl 0 (by decide) q_225 rfl hname rfl rfl rfl (Nat.le_of_ble_eq_true rfl) dX2_init_9 (fun H locs h => ?_)
  refine z_aload_n X hl 0 rfl rfl dX2_init_12 ?_
  refine z_bipush (v := 50) X dX2_init_13 (by decide) ?_
  refine r_newI X K h 50 rfl (by decide) ⟨Nat.le_of_ble_eq_true rfl, Nat.le_of_ble_eq_true rfl⟩ dX2_init_15 (fun a2 H h => ?_)
  refine r_putF X K h inX2 tyX2_ok nmX2 0 rfl rfl 1 (by decide) q_226 rfl hname rfl rfl rfl (Nat.le_of_ble_eq_true rfl) dX2_init_17 (fun H locs h => ?_)
  exact r_vret X hr hlk K h (Nat.le_refl _) (Nat.le_refl _) dX2_init_20 ⟨a1, a2, rfl⟩
theorem qo_X4_init : Cond.methodLink RX4 3 Lib.objectInit ∈ lw_all := lwa_all (L := [Cond.methodLink RX4 3 Lib.objectInit]) (by decide +kernel) _ List.mem_cons_self
theorem qcl_X4_9 : Cond.classLink RX4 9 RJx4a65c ∈ lw_all := lwa_all (L := [Cond.classLink RX4 9 RJx4a65c]) (by decide +kernel) _ List.mem_cons_self
theorem qin_Jx4a65c : Cond.instantiable RJx4a65c 3 ∈ lw_all := lwa_all (L := [Cond.instantiable RJx4a65c 3]) (by decide +kernel) _ List.mem_cons_self
theorem qni_Jx4a65c : Cond.initialized RJx4a65c ∈ lw_all := lwa_all (L := [Cond.initialized RJx4a65c]) (by decide +kernel) _ List.mem_cons_self
theorem ql_X4_11 : Cond.methodLink RX4 11 yJx4a65c_init_da8c8 ∈ lw_all := lwa_all (L := [Cond.methodLink RX4 11 yJx4a65c_init_da8c8]) (by decide +kernel) _ List.mem_cons_self
theorem lkI_X4_11 : LkI RX4 11 yJx4a65c_init_da8c8 cJx4a65c_init_da8c8 1 0 := LkI.of ql_X4_11 qi_Jx4a65c_init_da8c8 qn_Jx4a65c_init_da8c8 qc_Jx4a65c_init_da8c8 rfl (by decide +kernel)
set_option maxRecDepth 100000 in
set_option maxHeartbeats 4000000 in
theorem ct_X4_init {l : Launch} {G : Gr} {x : va_W} {L : List Nat} {f : Nat → va_E} (q : Nat) : CtV l G yX4_init (ws_ yX4_init cX4_init 1 none) { frames := 4, cells := 1, slots := 3, locals := 90 } [.ref q] (wq x [(q, .inr (4, [.null, zI 0]))] L f) 1 3 (fun w' => ∃ (a1 : Nat), w' = wq x [(q, .inr (4, [.ref a1, zI 0])), (a1, .inr (11, [zI 0, .ref G.2.2.2.2, zI 0]))] L f) := by
  refine CtV.ofInit (by decide) rfl (Nat.le_of_ble_eq_true rfl) ?_
  intro p e s m args below meth c ls hname X hr hlk K g h hl
  have hl : lv_has ls 1 [(0, .ref q)] := hl
  refine z_aload_n X hl 0 rfl rfl dX4_init_0 ?_
  refine r_objInit X qo_X4_init (lv_size hl) ⟨Nat.le_of_ble_eq_true rfl, Nat.le_of_ble_eq_true rfl⟩ dX4_init_1 ?_
  refine z_aload_n X hl 0 rfl rfl dX4_init_4 ?_
  refine r_newQ X K h inJx4a65c tyJx4a65c_ok (ci := 11) (fs := [zI 0, .null, zI 0]) rfl qcl_X4_9 qin_Jx4a65c qni_Jx4a65c (fun j hj => by rcases (show j = 0 ∨ j = 1 ∨ j = 2 by omega) with rfl | rfl | rfl <;> rfl) ⟨Nat.le_of_ble_eq_true rfl, Nat.le_of_ble_eq_true rfl⟩ dX4_init_5 (fun a1 H h => ?_)
  refine z_dup X rfl dX4_init_8 ?_
  rw [wq_mv] at h
  refine r_callIv X K g h (ct_Jx4a65c_init_da8c8 a1) lkI_X4_11 ⟨rfl, rfl⟩ ⟨Nat.le_of_ble_eq_true rfl, Nat.le_of_ble_eq_true rfl⟩ rfl (lv_size hl) rfl (Nat.le_of_ble_eq_true rfl) dX4_init_9 ⟨Nat.le_of_ble_eq_true rfl, Nat.le_of_ble_eq_true rfl⟩ (fun w' H locs hp h => ?_)
  subst hp
  rw [← wq_mv] at h
  refine r_putF X K h inX4 tyX4_ok nmX4 0 rfl rfl 0 (by decide) q_141 rfl hname rfl rfl rfl (Nat.le_of_ble_eq_true rfl) dX4_init_12 (fun H locs h => ?_)
  exact r_vret X hr hlk K h (Nat.le_refl _) (Nat.le_refl _) dX4_init_15 ⟨a1, rfl⟩
theorem qo_X3_init : Cond.methodLink RX3 3 Lib.objectInit ∈ lw_all := lwa_all (L := [Cond.methodLink RX3 3 Lib.objectInit]) (by decide +kernel) _ List.mem_cons_self
theorem qcl_X3_9 : Cond.classLink RX3 9 RX4 ∈ lw_all := lwa_all (L := [Cond.classLink RX3 9 RX4]) (by decide +kernel) _ List.mem_cons_self
theorem qin_X4 : Cond.instantiable RX4 2 ∈ lw_all := lwa_all (L := [Cond.instantiable RX4 2]) (by decide +kernel) _ List.mem_cons_self
theorem qni_X4 : Cond.initialized RX4 ∈ lw_all := lwa_all (L := [Cond.initialized RX4]) (by decide +kernel) _ List.mem_cons_self
theorem qcl_X3_18 : Cond.classLink RX3 18 RX0 ∈ lw_all := lwa_all (L := [Cond.classLink RX3 18 RX0]) (by decide +kernel) _ List.mem_cons_self
theorem qin_X0 : Cond.instantiable RX0 5 ∈ lw_all := lwa_all (L := [Cond.instantiable RX0 5]) (by decide +kernel) _ List.mem_cons_self
theorem qni_X0 : Cond.initialized RX0 ∈ lw_all := lwa_all (L := [Cond.initialized RX0]) (by decide +kernel) _ List.mem_cons_self
theorem ql_X3_20 : Cond.methodLink RX3 20 yX0_init ∈ lw_all := lwa_all (L := [Cond.methodLink RX3 20 yX0_init]) (by decide +kernel) _ List.mem_cons_self
theorem lkI_X3_20 : LkI RX3 20 yX0_init cX0_init 3 0 := LkI.of ql_X3_20 qi_X0_init qn_X0_init qc_X0_init rfl (by decide +kernel)
theorem qcl_X3_25 : Cond.classLink RX3 25 RX6 ∈ lw_all := lwa_all (L := [Cond.classLink RX3 25 RX6]) (by decide +kernel) _ List.mem_cons_self
theorem qin_X6 : Cond.instantiable RX6 2 ∈ lw_all := lwa_all (L := [Cond.instantiable RX6 2]) (by decide +kernel) _ List.mem_cons_self
theorem qni_X6 : Cond.initialized RX6 ∈ lw_all := lwa_all (L := [Cond.initialized RX6]) (by decide +kernel) _ List.mem_cons_self
set_option maxRecDepth 100000 in
set_option maxHeartbeats 4000000 in
theorem ct_X3_init {l : Launch} {G : Gr} {x : va_W} {L : List Nat} {f : Nat → va_E} (q : Nat) : CtV l G yX3_init (ws_ yX3_init cX3_init 1 none) { frames := 5, cells := 108, slots := 516, locals := 110 } [.ref q] (wq x [(q, .inr (3, [.null, .null, .null, zI 0]))] L f) 108 516 (fun w' => ∃ (a1 a2 a3 a4 a5 a6 a7 a8 : Nat), ∃ (r0 : Option Nat) (ns L1 : List Nat) (f1 : Nat → va_E), Spare L f 100 r0 ns L1 f1 ∧ w' = wq x [(q, .inr (3, [.ref a1, .ref a3, .ref a4, zI 0])), (a1, .inr (4, [.ref a2, zI 0])), (a2, .inr (11, [zI 0, .ref G.2.2.2.2, zI 0])), (a3, .inr (0, [.null, .null, va_rf r0, zI 0, zI 0])), (a4, .inr (6, [.ref a5, .ref a8])), (a5, .inl (G.2.1 3, 2, .inr (.inr (.inr (.inr (fun j => if j < 2 then (if j = 0 then some a6 else some a7) else none)))))), (a6, .inl (G.2.1 0, 100, .inl (aI (fun _ => 0)))), (a7, .inl (G.2.1 0, 100, .inl (aI (fun _ => 0)))), (a8, .inl (G.2.1 0, 2, .inl (aI (fun _ => 0))))] L1 f1) := by
  refine CtV.ofInit (by decide) rfl (Nat.le_of_ble_eq_true rfl) ?_
  intro p e s m args below meth c ls hname X hr hlk K g h hl
  have hl : lv_has ls 1 [(0, .ref q)] := hl
  refine z_aload_n X hl 0 rfl rfl dX3_init_0 ?_
  refine r_objInit X qo_X3_init (lv_size hl) ⟨Nat.le_of_ble_eq_true rfl, Nat.le_of_ble_eq_true rfl⟩ dX3_init_1 ?_
  refine z_aload_n X hl 0 rfl rfl dX3_init_4 ?_
  refine r_newQ X K h inX4 tyX4_ok (ci := 4) (fs := [.null, zI 0]) rfl qcl_X3_9 qin_X4 qni_X4 (fun j hj => by rcases (show j = 0 ∨ j = 1 by omega) with rfl | rfl <;> rfl) ⟨Nat.le_of_ble_eq_true rfl, Nat.le_of_ble_eq_true rfl⟩ dX3_init_5 (fun a1 H h => ?_)
  refine z_dup X rfl dX3_init_8 ?_
  rw [wq_mv] at h
  refine r_callINv (host := RX9) (n := 0) X K g h (ct_X4_init a1) (by decide) qc_X4_init qn_X4_init qi_X4_init rfl (by decide +kernel) ⟨rfl, rfl⟩ ⟨Nat.le_of_ble_eq_true rfl, Nat.le_of_ble_eq_true rfl⟩ rfl (lv_size hl) rfl (Nat.le_of_ble_eq_true rfl) dX3_init_9 ⟨Nat.le_of_ble_eq_true rfl, Nat.le_of_ble_eq_true rfl⟩ (fun w' H locs hp h => ?_)
  obtain ⟨a2, rfl⟩ := hp
  rw [← wq_mv] at h
  refine r_putF X K h inX3 tyX3_ok nmX3 0 rfl rfl 0 (by decide) q_205 rfl hname rfl rfl rfl (Nat.le_of_ble_eq_true rfl) dX3_init_12 (fun H locs h => ?_)
  refine z_aload_n X hl 0 rfl rfl dX3_init_15 ?_
  refine r_newQ X K h inX0 tyX0_ok (ci := 0) (fs := [.null, .null, .null, zI 0, zI 0]) rfl qcl_X3_18 qin_X0 qni_X0 (fun j hj => by rcases (show j = 0 ∨ j = 1 ∨ j = 2 ∨ j = 3 ∨ j = 4 by omega) with rfl | rfl | rfl | rfl | rfl <;> rfl) ⟨Nat.le_of_ble_eq_true rfl, Nat.le_of_ble_eq_true rfl⟩ dX3_init_16 (fun a3 H h => ?_)
  refine z_dup X rfl dX3_init_19 ?_
  rw [wq_mv] at h
  refine r_callIv X K g h (ct_X0_init a3) lkI_X3_20 ⟨rfl, rfl⟩ ⟨Nat.le_of_ble_eq_true rfl, Nat.le_of_ble_eq_true rfl⟩ rfl (lv_size hl) rfl (Nat.le_of_ble_eq_true rfl) dX3_init_20 ⟨Nat.le_of_ble_eq_true rfl, Nat.le_of_ble_eq_true rfl⟩ (fun w' H locs hp h => ?_)
  obtain ⟨r0, ns, L1, f1, hsp, rfl⟩ := hp
  rw [← wq_mv] at h
  refine r_putF X K h inX3 tyX3_ok nmX3 0 rfl rfl 1 (by decide) q_206 rfl hname rfl rfl rfl (Nat.le_of_ble_eq_true rfl) dX3_init_23 (fun H locs h => ?_)
  refine z_aload_n X hl 0 rfl rfl dX3_init_26 ?_
  refine r_newQ X K h inX6 tyX6_ok (ci := 6) (fs := [.null, .null]) rfl qcl_X3_25 qin_X6 qni_X6 (fun j hj => by rcases (show j = 0 ∨ j = 1 by omega) with rfl | rfl <;> rfl) ⟨Nat.le_of_ble_eq_true rfl, Nat.le_of_ble_eq_true rfl⟩ dX3_init_27 (fun a4 H h => ?_)
  refine z_dup X rfl dX3_init_30 ?_
  rw [wq_mv] at h
  refine r_callINv (host := RX9) (n := 0) X K g h (ct_X6_init a4) (by decide) qc_X6_init qn_X6_init qi_X6_init rfl (by decide +kernel) ⟨rfl, rfl⟩ ⟨Nat.le_of_ble_eq_true rfl, Nat.le_of_ble_eq_true rfl⟩ rfl (lv_size hl) rfl (Nat.le_of_ble_eq_true rfl) dX3_init_31 ⟨Nat.le_of_ble_eq_true rfl, Nat.le_of_ble_eq_true rfl⟩ (fun w' H locs hp h => ?_)
  obtain ⟨a5, a6, a7, a8, rfl⟩ := hp
  rw [← wq_mv] at h
  refine r_putF X K h inX3 tyX3_ok nmX3 0 rfl rfl 2 (by decide) q_207 rfl hname rfl rfl rfl (Nat.le_of_ble_eq_true rfl) dX3_init_34 (fun H locs h => ?_)
  exact r_vret X hr hlk K h (Nat.le_refl _) (Nat.le_refl _) dX3_init_37 ⟨a1, a2, a3, a4, a5, a6, a7, a8, r0, ns, L1, f1, hsp, rfl⟩
theorem qo_X1_init : Cond.methodLink RX1 3 Lib.objectInit ∈ lw_all := lwa_all (L := [Cond.methodLink RX1 3 Lib.objectInit]) (by decide +kernel) _ List.mem_cons_self
theorem qcl_X1_9 : Cond.classLink RX1 9 RX3 ∈ lw_all := lwa_all (L := [Cond.classLink RX1 9 RX3]) (by decide +kernel) _ List.mem_cons_self
theorem qin_X3 : Cond.instantiable RX3 4 ∈ lw_all := lwa_all (L := [Cond.instantiable RX3 4]) (by decide +kernel) _ List.mem_cons_self
theorem qni_X3 : Cond.initialized RX3 ∈ lw_all := lwa_all (L := [Cond.initialized RX3]) (by decide +kernel) _ List.mem_cons_self
theorem qcl_X1_18 : Cond.classLink RX1 18 RX2 ∈ lw_all := lwa_all (L := [Cond.classLink RX1 18 RX2]) (by decide +kernel) _ List.mem_cons_self
theorem qin_X2 : Cond.instantiable RX2 4 ∈ lw_all := lwa_all (L := [Cond.instantiable RX2 4]) (by decide +kernel) _ List.mem_cons_self
theorem qni_X2 : Cond.initialized RX2 ∈ lw_all := lwa_all (L := [Cond.initialized RX2]) (by decide +kernel) _ List.mem_cons_self
set_option maxRecDepth 100000 in
set_option maxHeartbeats 4000000 in
theorem ct_X1_init {l : Launch} {G : Gr} {x : va_W} {L : List Nat} {f : Nat → va_E} (q : Nat) : CtV l G yX1_init (ws_ yX1_init cX1_init 1 none) { frames := 6, cells := 113, slots := 628, locals := 130 } [.ref q] (wq x [(q, .inr (1, [.null, .null, .null, zI 0, zI 0]))] L f) 113 628 (fun w' => ∃ (a1 a2 a3 a4 a5 a6 a7 a8 a9 a10 a11 a12 a13 : Nat), ∃ (r0 : Option Nat) (ns L1 : List Nat) (f1 : Nat → va_E), Spare L f 100 r0 ns L1 f1 ∧ w' = wq x [(q, .inr (1, [.ref a1, .ref a10, .ref a13, zI 0, zI 0])), (a1, .inr (3, [.ref a2, .ref a4, .ref a5, zI 0])), (a2, .inr (4, [.ref a3, zI 0])), (a3, .inr (11, [zI 0, .ref G.2.2.2.2, zI 0])), (a4, .inr (0, [.null, .null, va_rf r0, zI 0, zI 0])), (a5, .inr (6, [.ref a6, .ref a9])), (a6, .inl (G.2.1 3, 2, .inr (.inr (.inr (.inr (fun j => if j < 2 then (if j = 0 then some a7 else some a8) else none)))))), (a7, .inl (G.2.1 0, 100, .inl (aI (fun _ => 0)))), (a8, .inl (G.2.1 0, 100, .inl (aI (fun _ => 0)))), (a9, .inl (G.2.1 0, 2, .inl (aI (fun _ => 0)))), (a10, .inr (2, [.ref a11, .ref a12, zI 0, zI 0])), (a11, .inl (G.2.1 0, 50, .inl (aI (fun _ => 0)))), (a12, .inl (G.2.1 0, 50, .inl (aI (fun _ => 0)))), (a13, .inl (G.2.1 0, 4, .inl (aI (fun _ => 0))))] L1 f1) := by
  refine CtV.ofInit (by decide) rfl (Nat.le_of_ble_eq_true rfl) ?_
  intro p e s m args below meth c ls hname X hr hlk K g h hl
  have hl : lv_has ls 1 [(0, .ref q)] := hl
  refine z_aload_n X hl 0 rfl rfl dX1_init_0 ?_
  refine r_objInit X qo_X1_init (lv_size hl) ⟨Nat.le_of_ble_eq_true rfl, Nat.le_of_ble_eq_true rfl⟩ dX1_init_1 ?_
  refine z_aload_n X hl 0 rfl rfl dX1_init_4 ?_
  refine r_newQ X K h inX3 tyX3_ok (ci := 3) (fs := [.null, .null, .null, zI 0]) rfl qcl_X1_9 qin_X3 qni_X3 (fun j hj => by rcases (show j = 0 ∨ j = 1 ∨ j = 2 ∨ j = 3 by omega) with rfl | rfl | rfl | rfl <;> rfl) ⟨Nat.le_of_ble_eq_true rfl, Nat.le_of_ble_eq_true rfl⟩ dX1_init_5 (fun a1 H h => ?_)
  refine z_dup X rfl dX1_init_8 ?_
  rw [wq_mv] at h
  refine r_callINv (host := RX9) (n := 0) X K g h (ct_X3_init a1) (by decide) qc_X3_init qn_X3_init qi_X3_init rfl (by decide +kernel) ⟨rfl, rfl⟩ ⟨Nat.le_of_ble_eq_true rfl, Nat.le_of_ble_eq_true rfl⟩ rfl (lv_size hl) rfl (Nat.le_of_ble_eq_true rfl) dX1_init_9 ⟨Nat.le_of_ble_eq_true rfl, Nat.le_of_ble_eq_true rfl⟩ (fun w' H locs hp h => ?_)
  obtain ⟨a2, a3, a4, a5, a6, a7, a8, a9, r0, ns, L1, f1, hsp, rfl⟩ := hp
  rw [← wq_mv] at h
  refine r_putF X K h inX1 tyX1_ok nmX1 0 rfl rfl 0 (by decide) q_240 rfl hname rfl rfl rfl (Nat.le_of_ble_eq_true rfl) dX1_init_12 (fun H locs h => ?_)
  refine z_aload_n X hl 0 rfl rfl dX1_init_15 ?_
  refine r_newQ X K h inX2 tyX2_ok (ci := 2) (fs := [.null, .null, zI 0, zI 0]) rfl qcl_X1_18 qin_X2 qni_X2 (fun j hj => by rcases (show j = 0 ∨ j = 1 ∨ j = 2 ∨ j = 3 by omega) with rfl | rfl | rfl | rfl <;> rfl) ⟨Nat.le_of_ble_eq_true rfl, Nat.le_of_ble_eq_true rfl⟩ dX1_init_16 (fun a10 H h => ?_)
  refine z_dup X rfl dX1_init_19 ?_
  rw [wq_mv] at h
  refine r_callINv (host := RX9) (n := 0) X K g h (ct_X2_init a10) (by decide) qc_X2_init qn_X2_init qi_X2_init rfl (by decide +kernel) ⟨rfl, rfl⟩ ⟨Nat.le_of_ble_eq_true rfl, Nat.le_of_ble_eq_true rfl⟩ rfl (lv_size hl) rfl (Nat.le_of_ble_eq_true rfl) dX1_init_20 ⟨Nat.le_of_ble_eq_true rfl, Nat.le_of_ble_eq_true rfl⟩ (fun w' H locs hp h => ?_)
  obtain ⟨a11, a12, rfl⟩ := hp
  rw [← wq_mv] at h
  refine r_putF X K h inX1 tyX1_ok nmX1 0 rfl rfl 1 (by decide) q_242 rfl hname rfl rfl rfl (Nat.le_of_ble_eq_true rfl) dX1_init_23 (fun H locs h => ?_)
  refine z_aload_n X hl 0 rfl rfl dX1_init_26 ?_
  refine z_iconst X dX1_init_27 ?_
  refine r_newI X K h 4 rfl (by decide) ⟨Nat.le_of_ble_eq_true rfl, Nat.le_of_ble_eq_true rfl⟩ dX1_init_28 (fun a13 H h => ?_)
  refine r_putF X K h inX1 tyX1_ok nmX1 0 rfl rfl 2 (by decide) q_244 rfl hname rfl rfl rfl (Nat.le_of_ble_eq_true rfl) dX1_init_30 (fun H locs h => ?_)
  refine z_aload_n X hl 0 rfl rfl dX1_init_33 ?_
  refine z_iconst X dX1_init_34 ?_
  refine r_putQ X K h inX1 tyX1_ok nmX1 0 rfl rfl 4 (by decide) q_248 rfl rfl rfl (Nat.le_of_ble_eq_true rfl) dX1_init_35 (fun H locs h => ?_)
  exact r_vret X hr hlk K h (Nat.le_refl _) (Nat.le_refl _) dX1_init_38 ⟨a1, a2, a3, a4, a5, a6, a7, a8, a9, a10, a11, a12, a13, r0, ns, L1, f1, hsp, rfl⟩
theorem qo_X9_init : Cond.methodLink RX9 1 Lib.objectInit ∈ lw_all := lwa_all (L := [Cond.methodLink RX9 1 Lib.objectInit]) (by decide +kernel) _ List.mem_cons_self
theorem qcl_X9_7 : Cond.classLink RX9 7 RX1 ∈ lw_all := lwa_all (L := [Cond.classLink RX9 7 RX1]) (by decide +kernel) _ List.mem_cons_self
theorem qin_X1 : Cond.instantiable RX1 5 ∈ lw_all := lwa_all (L := [Cond.instantiable RX1 5]) (by decide +kernel) _ List.mem_cons_self
theorem qni_X1 : Cond.initialized RX1 ∈ lw_all := lwa_all (L := [Cond.initialized RX1]) (by decide +kernel) _ List.mem_cons_self
theorem qcl_X9_16 : Cond.classLink RX9 16 RX8 ∈ lw_all := lwa_all (L := [Cond.classLink RX9 16 RX8]) (by decide +kernel) _ List.mem_cons_self
theorem qin_X8 : Cond.instantiable RX8 2 ∈ lw_all := lwa_all (L := [Cond.instantiable RX8 2]) (by decide +kernel) _ List.mem_cons_self
theorem qni_X8 : Cond.initialized RX8 ∈ lw_all := lwa_all (L := [Cond.initialized RX8]) (by decide +kernel) _ List.mem_cons_self
theorem qcl_X9_23 : Cond.classLink RX9 23 RX7 ∈ lw_all := lwa_all (L := [Cond.classLink RX9 23 RX7]) (by decide +kernel) _ List.mem_cons_self
theorem qin_X7 : Cond.instantiable RX7 7 ∈ lw_all := lwa_all (L := [Cond.instantiable RX7 7]) (by decide +kernel) _ List.mem_cons_self
theorem qni_X7 : Cond.initialized RX7 ∈ lw_all := lwa_all (L := [Cond.initialized RX7]) (by decide +kernel) _ List.mem_cons_self
set_option maxRecDepth 100000 in
set_option maxHeartbeats 4000000 in
theorem ct_X9_init {l : Launch} {G : Gr} {x : va_W} {L : List Nat} {f : Nat → va_E} (q : Nat) : CtV l G yX9_init (ws_ yX9_init cX9_init 1 none) { frames := 7, cells := 123, slots := 2847, locals := 150 } [.ref q] (wq x [(q, .inr (9, [.null, .null, .null, zI 0, zI 0, zI 0, .null, zI 0]))] L f) 123 2847 (fun w' => ∃ (a1 a2 a3 a4 a5 a6 a7 a8 a9 a10 a11 a12 a13 a14 a15 a16 a17 a18 a19 a20 a21 a22 a23 : Nat), ∃ (r0 : Option Nat) (ns L1 : List Nat) (f1 : Nat → va_E), Spare L f 100 r0 ns L1 f1 ∧ w' = wq x [(q, .inr (9, [.ref a1, .ref a15, .ref a17, zI 0, zI (-1), zI 0, .ref a23, zI 0])), (a1, .inr (1, [.ref a2, .ref a11, .ref a14, zI 0, zI 0])), (a2, .inr (3, [.ref a3, .ref a5, .ref a6, zI 0])), (a3, .inr (4, [.ref a4, zI 0])), (a4, .inr (11, [zI 0, .ref G.2.2.2.2, zI 0])), (a5, .inr (0, [.null, .null, va_rf r0, zI 0, zI 0])), (a6, .inr (6, [.ref a7, .ref a10])), (a7, .inl (G.2.1 3, 2, .inr (.inr (.inr (.inr (fun j => if j < 2 then (if j = 0 then some a8 else some a9) else none)))))), (a8, .inl (G.2.1 0, 100, .inl (aI (fun _ => 0)))), (a9, .inl (G.2.1 0, 100, .inl (aI (fun _ => 0)))), (a10, .inl (G.2.1 0, 2, .inl (aI (fun _ => 0)))), (a11, .inr (2, [.ref a12, .ref a13, zI 0, zI 0])), (a12, .inl (G.2.1 0, 50, .inl (aI (fun _ => 0)))), (a13, .inl (G.2.1 0, 50, .inl (aI (fun _ => 0)))), (a14, .inl (G.2.1 0, 4, .inl (aI (fun _ => 0)))), (a15, .inr (8, [.ref a16, zI 0])), (a16, .inl (G.2.1 0, 300, .inl (aI (fun _ => 0)))), (a17, .inr (7, [.ref a18, .ref a19, .ref a20, .ref a21, .ref a22, zI 0, zI 0])), (a18, .inl (G.2.1 0, 300, .inl (aI (fun _ => 0)))), (a19, .inl (G.2.1 0, 300, .inl (aI (fun _ => 0)))), (a20, .inl (G.2.1 0, 300, .inl (aI (fun _ => 0)))), (a21, .inl (G.2.1 0, 300, .inl (aI (fun _ => 0)))), (a22, .inl (G.2.1 0, 4, .inl (aI (fun _ => 0)))), (a23, .inl (G.2.1 1, 701, .inl (aI (fun _ => 0))))] L1 f1) := by
  refine CtV.ofInit (by decide) rfl (Nat.le_of_ble_eq_true rfl) ?_
  intro p e s m args below meth c ls hname X hr hlk K g h hl
  have hl : lv_has ls 1 [(0, .ref q)] := hl
  refine z_aload_n X hl 0 rfl rfl dX9_init_0 ?_
  refine r_objInit X qo_X9_init (lv_size hl) ⟨Nat.le_of_ble_eq_true rfl, Nat.le_of_ble_eq_true rfl⟩ dX9_init_1 ?_
  refine z_aload_n X hl 0 rfl rfl dX9_init_4 ?_
  refine r_newQ X K h inX1 tyX1_ok (ci := 1) (fs := [.null, .null, .null, zI 0, zI 0]) rfl qcl_X9_7 qin_X1 qni_X1 (fun j hj => by rcases (show j = 0 ∨ j = 1 ∨ j = 2 ∨ j = 3 ∨ j = 4 by omega) with rfl | rfl | rfl | rfl | rfl <;> rfl) ⟨Nat.le_of_ble_eq_true rfl, Nat.le_of_ble_eq_true rfl⟩ dX9_init_5 (fun a1 H h => ?_)
  refine z_dup X rfl dX9_init_8 ?_
  rw [wq_mv] at h
  refine r_callINv (host := RX9) (n := 0) X K g h (ct_X1_init a1) (by decide) qc_X1_init qn_X1_init qi_X1_init rfl (by decide +kernel) ⟨rfl, rfl⟩ ⟨Nat.le_of_ble_eq_true rfl, Nat.le_of_ble_eq_true rfl⟩ rfl (lv_size hl) rfl (Nat.le_of_ble_eq_true rfl) dX9_init_9 ⟨Nat.le_of_ble_eq_true rfl, Nat.le_of_ble_eq_true rfl⟩ (fun w' H locs hp h => ?_)
  obtain ⟨a2, a3, a4, a5, a6, a7, a8, a9, a10, a11, a12, a13, a14, r0, ns, L1, f1, hsp, rfl⟩ := hp
  rw [← wq_mv] at h
  refine r_putF X K h inX9 tyX9_ok nmX9 0 rfl rfl 0 (by decide) q_306 rfl hname rfl rfl rfl (Nat.le_of_ble_eq_true rfl) dX9_init_12 (fun H locs h => ?_)
  refine z_aload_n X hl 0 rfl rfl dX9_init_15 ?_
  refine r_newQ X K h inX8 tyX8_ok (ci := 8) (fs := [.null, zI 0]) rfl qcl_X9_16 qin_X8 qni_X8 (fun j hj => by rcases (show j = 0 ∨ j = 1 by omega) with rfl | rfl <;> rfl) ⟨Nat.le_of_ble_eq_true rfl, Nat.le_of_ble_eq_true rfl⟩ dX9_init_16 (fun a15 H h => ?_)
  refine z_dup X rfl dX9_init_19 ?_
  rw [wq_mv] at h
  refine r_callINv (host := RX9) (n := 0) X K g h (ct_X8_init a15) (by decide) qc_X8_init qn_X8_init qi_X8_init rfl (by decide +kernel) ⟨rfl, rfl⟩ ⟨Nat.le_of_ble_eq_true rfl, Nat.le_of_ble_eq_true rfl⟩ rfl (lv_size hl) rfl (Nat.le_of_ble_eq_true rfl) dX9_init_20 ⟨Nat.le_of_ble_eq_true rfl, Nat.le_of_ble_eq_true rfl⟩ (fun w' H locs hp h => ?_)
  obtain ⟨a16, rfl⟩ := hp
  rw [← wq_mv] at h
  refine r_putF X K h inX9 tyX9_ok nmX9 0 rfl rfl 1 (by decide) q_307 rfl hname rfl rfl rfl (Nat.le_of_ble_eq_true rfl) dX9_init_23 (fun H locs h => ?_)
  refine z_aload_n X hl 0 rfl rfl dX9_init_26 ?_
  refine r_newQ X K h inX7 tyX7_ok (ci := 7) (fs := [.null, .null, .null, .null, .null, zI 0, zI 0]) rfl qcl_X9_23 qin_X7 qni_X7 (fun j hj => by rcases (show j = 0 ∨ j = 1 ∨ j = 2 ∨ j = 3 ∨ j = 4 ∨ j = 5 ∨ j = 6 by omega) with rfl | rfl | rfl | rfl | rfl | rfl | rfl <;> rfl) ⟨Nat.le_of_ble_eq_true rfl, Nat.le_of_ble_eq_true rfl⟩ dX9_init_27 (fun a17 H h => ?_)
  refine z_dup X rfl dX9_init_30 ?_
  rw [wq_mv] at h
  refine r_callINv (host := RX9) (n := 0) X K g h (ct_X7_init a17) (by decide) qc_X7_init qn_X7_init qi_X7_init rfl (by decide +kernel) ⟨rfl, rfl⟩ ⟨Nat.le_of_ble_eq_true rfl, Nat.le_of_ble_eq_true rfl⟩ rfl (lv_size hl) rfl (Nat.le_of_ble_eq_true rfl) dX9_init_31 ⟨Nat.le_of_ble_eq_true rfl, Nat.le_of_ble_eq_true rfl⟩ (fun w' H locs hp h => ?_)
  obtain ⟨a18, a19, a20, a21, a22, rfl⟩ := hp
  rw [← wq_mv] at h
  refine r_putF X K h inX9 tyX9_ok nmX9 0 rfl rfl 2 (by decide) q_308 rfl hname rfl rfl rfl (Nat.le_of_ble_eq_true rfl) dX9_init_34 (fun H locs h => ?_)
  refine z_aload_n X hl 0 rfl rfl dX9_init_37 ?_
  refine z_iconst X dX9_init_38 ?_
  refine r_putQ X K h inX9 tyX9_ok nmX9 0 rfl rfl 4 (by decide) q_310 rfl rfl rfl (Nat.le_of_ble_eq_true rfl) dX9_init_39 (fun H locs h => ?_)
  refine z_aload_n X hl 0 rfl rfl dX9_init_42 ?_
  refine z_iconst X dX9_init_43 ?_
  refine r_putQ X K h inX9 tyX9_ok nmX9 0 rfl rfl 5 (by decide) q_311 rfl rfl rfl (Nat.le_of_ble_eq_true rfl) dX9_init_44 (fun H locs h => ?_)
  refine z_aload_n X hl 0 rfl rfl dX9_init_47 ?_
  refine z_sipush (v := 701) X dX9_init_48 (by decide) ?_
  refine r_newC X K h 701 rfl (by decide) ⟨Nat.le_of_ble_eq_true rfl, Nat.le_of_ble_eq_true rfl⟩ dX9_init_51 (fun a23 H h => ?_)
  refine r_putF X K h inX9 tyX9_ok nmX9 0 rfl rfl 6 (by decide) q_312 rfl hname rfl rfl rfl (Nat.le_of_ble_eq_true rfl) dX9_init_53 (fun H locs h => ?_)
  exact r_vret X hr hlk K h (Nat.le_refl _) (Nat.le_refl _) dX9_init_56 ⟨a1, a2, a3, a4, a5, a6, a7, a8, a9, a10, a11, a12, a13, a14, a15, a16, a17, a18, a19, a20, a21, a22, a23, r0, ns, L1, f1, hsp, rfl⟩
